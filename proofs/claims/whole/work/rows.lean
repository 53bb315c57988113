section
-- ===== PART A: goes FIRST, ahead of the names: the tables' words, and 'selects' of the private methods out of them =====
/-- a private method of a class that the tables say can be made, by its rows of tables_1 -/
def lw_okq (q : MethodName × Nat) : Prop := (q.1.cls ≠ "java/lang/invoke/MethodHandle" ∧ q.1.cls ≠ "java/lang/invoke/VarHandle") ∧ Cond.instantiable q.1.cls q.2 ∈ tables_1 ∧ Cond.privateMethod q.1 ∈ tables_1 ∧ Cond.instanceMethod q.1 ∈ tables_1
theorem lw_p0 : lw_okq (⟨"RelocatingPatch", "append", "(LRelocatingPatch$Image;IZ)I"⟩, 6) := ⟨⟨by decide +kernel, by decide +kernel⟩, List.mem_of_getElem? (i := 9) (by decide +kernel), List.mem_of_getElem? (i := 121) (by decide +kernel), List.mem_of_getElem? (i := 122) (by decide +kernel)⟩
theorem lw_p1 : lw_okq (⟨"RelocatingPatch$Aligner", "freeAllWords", "()V"⟩, 6) := ⟨⟨by decide +kernel, by decide +kernel⟩, List.mem_of_getElem? (i := 54) (by decide +kernel), List.mem_of_getElem? (i := 194) (by decide +kernel), List.mem_of_getElem? (i := 195) (by decide +kernel)⟩
theorem lw_p2 : lw_okq (⟨"RelocatingPatch$Aligner", "findLongestRun", "(LRelocatingPatch$Image;LRelocatingPatch$Image;)V"⟩, 6) := ⟨⟨by decide +kernel, by decide +kernel⟩, List.mem_of_getElem? (i := 54) (by decide +kernel), List.mem_of_getElem? (i := 198) (by decide +kernel), List.mem_of_getElem? (i := 199) (by decide +kernel)⟩
theorem lw_p3 : lw_okq (⟨"RelocatingPatch$Aligner", "extendRuns", "(LRelocatingPatch$Image;LRelocatingPatch$Image;I)V"⟩, 6) := ⟨⟨by decide +kernel, by decide +kernel⟩, List.mem_of_getElem? (i := 54) (by decide +kernel), List.mem_of_getElem? (i := 203) (by decide +kernel), List.mem_of_getElem? (i := 204) (by decide +kernel)⟩
theorem lw_p4 : lw_okq (⟨"RelocatingPatch$Aligner", "isFree", "(II)Z"⟩, 6) := ⟨⟨by decide +kernel, by decide +kernel⟩, List.mem_of_getElem? (i := 54) (by decide +kernel), List.mem_of_getElem? (i := 207) (by decide +kernel), List.mem_of_getElem? (i := 208) (by decide +kernel)⟩
theorem lw_p5 : lw_okq (⟨"RelocatingPatch$Aligner", "isBetter", "(II)Z"⟩, 6) := ⟨⟨by decide +kernel, by decide +kernel⟩, List.mem_of_getElem? (i := 54) (by decide +kernel), List.mem_of_getElem? (i := 219) (by decide +kernel), List.mem_of_getElem? (i := 220) (by decide +kernel)⟩
theorem lw_p6 : lw_okq (⟨"RelocatingPatch$Aligner", "takeLongestRun", "()V"⟩, 6) := ⟨⟨by decide +kernel, by decide +kernel⟩, List.mem_of_getElem? (i := 54) (by decide +kernel), List.mem_of_getElem? (i := 223) (by decide +kernel), List.mem_of_getElem? (i := 224) (by decide +kernel)⟩
theorem lw_p7 : lw_okq (⟨"RelocatingPatch$CopyOrder", "firstReady", "(LRelocatingPatch$Blocks;)I"⟩, 4) := ⟨⟨by decide +kernel, by decide +kernel⟩, List.mem_of_getElem? (i := 79) (by decide +kernel), List.mem_of_getElem? (i := 243) (by decide +kernel), List.mem_of_getElem? (i := 244) (by decide +kernel)⟩
theorem lw_p8 : lw_okq (⟨"RelocatingPatch$CopyOrder", "waits", "(I)Z"⟩, 4) := ⟨⟨by decide +kernel, by decide +kernel⟩, List.mem_of_getElem? (i := 79) (by decide +kernel), List.mem_of_getElem? (i := 247) (by decide +kernel), List.mem_of_getElem? (i := 248) (by decide +kernel)⟩
theorem lw_p9 : lw_okq (⟨"RelocatingPatch$CopyOrder", "isReady", "(LRelocatingPatch$Blocks;I)Z"⟩, 4) := ⟨⟨by decide +kernel, by decide +kernel⟩, List.mem_of_getElem? (i := 79) (by decide +kernel), List.mem_of_getElem? (i := 251) (by decide +kernel), List.mem_of_getElem? (i := 252) (by decide +kernel)⟩
theorem lw_p10 : lw_okq (⟨"RelocatingPatch$CopyOrder", "copy", "(I)V"⟩, 4) := ⟨⟨by decide +kernel, by decide +kernel⟩, List.mem_of_getElem? (i := 79) (by decide +kernel), List.mem_of_getElem? (i := 272) (by decide +kernel), List.mem_of_getElem? (i := 273) (by decide +kernel)⟩
theorem lw_p11 : lw_okq (⟨"RelocatingPatch$CopyOrder", "shortestWaiting", "(LRelocatingPatch$Blocks;)I"⟩, 4) := ⟨⟨by decide +kernel, by decide +kernel⟩, List.mem_of_getElem? (i := 79) (by decide +kernel), List.mem_of_getElem? (i := 276) (by decide +kernel), List.mem_of_getElem? (i := 277) (by decide +kernel)⟩
theorem lw_p12 : lw_okq (⟨"RelocatingPatch$CopyOrder", "drop", "(I)V"⟩, 4) := ⟨⟨by decide +kernel, by decide +kernel⟩, List.mem_of_getElem? (i := 79) (by decide +kernel), List.mem_of_getElem? (i := 281) (by decide +kernel), List.mem_of_getElem? (i := 282) (by decide +kernel)⟩
theorem lw_p13 : lw_okq (⟨"RelocatingPatch", "blockError", "(I)I"⟩, 6) := ⟨⟨by decide +kernel, by decide +kernel⟩, List.mem_of_getElem? (i := 9) (by decide +kernel), List.mem_of_getElem? (i := 290) (by decide +kernel), List.mem_of_getElem? (i := 291) (by decide +kernel)⟩
theorem lw_p14 : lw_okq (⟨"RelocatingPatch", "newWordError", "(I)I"⟩, 6) := ⟨⟨by decide +kernel, by decide +kernel⟩, List.mem_of_getElem? (i := 9) (by decide +kernel), List.mem_of_getElem? (i := 310) (by decide +kernel), List.mem_of_getElem? (i := 311) (by decide +kernel)⟩
theorem lw_p15 : lw_okq (⟨"RelocatingPatch", "prediction", "(II)I"⟩, 6) := ⟨⟨by decide +kernel, by decide +kernel⟩, List.mem_of_getElem? (i := 9) (by decide +kernel), List.mem_of_getElem? (i := 334) (by decide +kernel), List.mem_of_getElem? (i := 335) (by decide +kernel)⟩
def lw_privs_1 : List (MethodName × Nat) := [(⟨"RelocatingPatch", "append", "(LRelocatingPatch$Image;IZ)I"⟩, 6), (⟨"RelocatingPatch$Aligner", "freeAllWords", "()V"⟩, 6), (⟨"RelocatingPatch$Aligner", "findLongestRun", "(LRelocatingPatch$Image;LRelocatingPatch$Image;)V"⟩, 6), (⟨"RelocatingPatch$Aligner", "extendRuns", "(LRelocatingPatch$Image;LRelocatingPatch$Image;I)V"⟩, 6), (⟨"RelocatingPatch$Aligner", "isFree", "(II)Z"⟩, 6), (⟨"RelocatingPatch$Aligner", "isBetter", "(II)Z"⟩, 6), (⟨"RelocatingPatch$Aligner", "takeLongestRun", "()V"⟩, 6), (⟨"RelocatingPatch$CopyOrder", "firstReady", "(LRelocatingPatch$Blocks;)I"⟩, 4), (⟨"RelocatingPatch$CopyOrder", "waits", "(I)Z"⟩, 4), (⟨"RelocatingPatch$CopyOrder", "isReady", "(LRelocatingPatch$Blocks;I)Z"⟩, 4), (⟨"RelocatingPatch$CopyOrder", "copy", "(I)V"⟩, 4), (⟨"RelocatingPatch$CopyOrder", "shortestWaiting", "(LRelocatingPatch$Blocks;)I"⟩, 4), (⟨"RelocatingPatch$CopyOrder", "drop", "(I)V"⟩, 4), (⟨"RelocatingPatch", "blockError", "(I)I"⟩, 6), (⟨"RelocatingPatch", "newWordError", "(I)I"⟩, 6), (⟨"RelocatingPatch", "prediction", "(II)I"⟩, 6)]
theorem lw_r1 : ∀ q ∈ lw_privs_1, lw_okq q := List.forall_mem_cons.mpr ⟨lw_p0, List.forall_mem_cons.mpr ⟨lw_p1, List.forall_mem_cons.mpr ⟨lw_p2, List.forall_mem_cons.mpr ⟨lw_p3, List.forall_mem_cons.mpr ⟨lw_p4, List.forall_mem_cons.mpr ⟨lw_p5, List.forall_mem_cons.mpr ⟨lw_p6, List.forall_mem_cons.mpr ⟨lw_p7, List.forall_mem_cons.mpr ⟨lw_p8, List.forall_mem_cons.mpr ⟨lw_p9, List.forall_mem_cons.mpr ⟨lw_p10, List.forall_mem_cons.mpr ⟨lw_p11, List.forall_mem_cons.mpr ⟨lw_p12, List.forall_mem_cons.mpr ⟨lw_p13, List.forall_mem_cons.mpr ⟨lw_p14, List.forall_mem_cons.mpr ⟨lw_p15, fun _ h => absurd h List.not_mem_nil⟩⟩⟩⟩⟩⟩⟩⟩⟩⟩⟩⟩⟩⟩⟩⟩
theorem lw_p16 : lw_okq (⟨"RelocatingPatch", "corrections", "()I"⟩, 6) := ⟨⟨by decide +kernel, by decide +kernel⟩, List.mem_of_getElem? (i := 9) (by decide +kernel), List.mem_of_getElem? (i := 347) (by decide +kernel), List.mem_of_getElem? (i := 348) (by decide +kernel)⟩
theorem lw_p17 : lw_okq (⟨"RelocatingPatch", "needsCorrection", "(I)Z"⟩, 6) := ⟨⟨by decide +kernel, by decide +kernel⟩, List.mem_of_getElem? (i := 9) (by decide +kernel), List.mem_of_getElem? (i := 351) (by decide +kernel), List.mem_of_getElem? (i := 352) (by decide +kernel)⟩
theorem lw_p18 : lw_okq (⟨"RelocatingPatch", "literals", "()I"⟩, 6) := ⟨⟨by decide +kernel, by decide +kernel⟩, List.mem_of_getElem? (i := 9) (by decide +kernel), List.mem_of_getElem? (i := 363) (by decide +kernel), List.mem_of_getElem? (i := 364) (by decide +kernel)⟩
theorem lw_p19 : lw_okq (⟨"RelocatingPatch", "blocksAndLiteralsCost", "()I"⟩, 6) := ⟨⟨by decide +kernel, by decide +kernel⟩, List.mem_of_getElem? (i := 9) (by decide +kernel), List.mem_of_getElem? (i := 371) (by decide +kernel), List.mem_of_getElem? (i := 372) (by decide +kernel)⟩
theorem lw_p20 : lw_okq (⟨"RelocatingPatch", "changedWords", "()I"⟩, 6) := ⟨⟨by decide +kernel, by decide +kernel⟩, List.mem_of_getElem? (i := 9) (by decide +kernel), List.mem_of_getElem? (i := 379) (by decide +kernel), List.mem_of_getElem? (i := 380) (by decide +kernel)⟩
theorem lw_p21 : lw_okq (⟨"RelocatingPatch", "isChanged", "(I)Z"⟩, 6) := ⟨⟨by decide +kernel, by decide +kernel⟩, List.mem_of_getElem? (i := 9) (by decide +kernel), List.mem_of_getElem? (i := 383) (by decide +kernel), List.mem_of_getElem? (i := 384) (by decide +kernel)⟩
theorem lw_p22 : lw_okq (⟨"RelocatingPatch", "inPlaceWordCost", "(I)I"⟩, 6) := ⟨⟨by decide +kernel, by decide +kernel⟩, List.mem_of_getElem? (i := 9) (by decide +kernel), List.mem_of_getElem? (i := 420) (by decide +kernel), List.mem_of_getElem? (i := 421) (by decide +kernel)⟩
theorem lw_p23 : lw_okq (⟨"RelocatingPatch", "isCopied", "(I)Z"⟩, 6) := ⟨⟨by decide +kernel, by decide +kernel⟩, List.mem_of_getElem? (i := 9) (by decide +kernel), List.mem_of_getElem? (i := 424) (by decide +kernel), List.mem_of_getElem? (i := 425) (by decide +kernel)⟩
theorem lw_p24 : lw_okq (⟨"RelocatingPatch", "memoryValue", "(II)I"⟩, 6) := ⟨⟨by decide +kernel, by decide +kernel⟩, List.mem_of_getElem? (i := 9) (by decide +kernel), List.mem_of_getElem? (i := 435) (by decide +kernel), List.mem_of_getElem? (i := 436) (by decide +kernel)⟩
theorem lw_p25 : lw_okq (⟨"RelocatingPatchModel", "isNew", "(I)Z"⟩, 19) := ⟨⟨by decide +kernel, by decide +kernel⟩, List.mem_of_getElem? (i := 450) (by decide +kernel), List.mem_of_getElem? (i := 529) (by decide +kernel), List.mem_of_getElem? (i := 530) (by decide +kernel)⟩
theorem lw_p26 : lw_okq (⟨"RelocatingPatchModel", "longestRun", "()I"⟩, 19) := ⟨⟨by decide +kernel, by decide +kernel⟩, List.mem_of_getElem? (i := 450) (by decide +kernel), List.mem_of_getElem? (i := 553) (by decide +kernel), List.mem_of_getElem? (i := 554) (by decide +kernel)⟩
theorem lw_p27 : lw_okq (⟨"RelocatingPatchModel", "findsRuns", "()V"⟩, 19) := ⟨⟨by decide +kernel, by decide +kernel⟩, List.mem_of_getElem? (i := 450) (by decide +kernel), List.mem_of_getElem? (i := 557) (by decide +kernel), List.mem_of_getElem? (i := 558) (by decide +kernel)⟩
theorem lw_p28 : lw_okq (⟨"RelocatingPatchModel", "matches", "(II)Z"⟩, 19) := ⟨⟨by decide +kernel, by decide +kernel⟩, List.mem_of_getElem? (i := 450) (by decide +kernel), List.mem_of_getElem? (i := 561) (by decide +kernel), List.mem_of_getElem? (i := 562) (by decide +kernel)⟩
theorem lw_p29 : lw_okq (⟨"RelocatingPatchModel", "takes", "(I)V"⟩, 19) := ⟨⟨by decide +kernel, by decide +kernel⟩, List.mem_of_getElem? (i := 450) (by decide +kernel), List.mem_of_getElem? (i := 565) (by decide +kernel), List.mem_of_getElem? (i := 566) (by decide +kernel)⟩
theorem lw_p30 : lw_okq (⟨"RelocatingPatchModel", "numbers", "()V"⟩, 19) := ⟨⟨by decide +kernel, by decide +kernel⟩, List.mem_of_getElem? (i := 450) (by decide +kernel), List.mem_of_getElem? (i := 569) (by decide +kernel), List.mem_of_getElem? (i := 570) (by decide +kernel)⟩
theorem lw_p31 : lw_okq (⟨"RelocatingPatchModel", "orders", "()V"⟩, 19) := ⟨⟨by decide +kernel, by decide +kernel⟩, List.mem_of_getElem? (i := 450) (by decide +kernel), List.mem_of_getElem? (i := 573) (by decide +kernel), List.mem_of_getElem? (i := 574) (by decide +kernel)⟩
def lw_privs_2 : List (MethodName × Nat) := [(⟨"RelocatingPatch", "corrections", "()I"⟩, 6), (⟨"RelocatingPatch", "needsCorrection", "(I)Z"⟩, 6), (⟨"RelocatingPatch", "literals", "()I"⟩, 6), (⟨"RelocatingPatch", "blocksAndLiteralsCost", "()I"⟩, 6), (⟨"RelocatingPatch", "changedWords", "()I"⟩, 6), (⟨"RelocatingPatch", "isChanged", "(I)Z"⟩, 6), (⟨"RelocatingPatch", "inPlaceWordCost", "(I)I"⟩, 6), (⟨"RelocatingPatch", "isCopied", "(I)Z"⟩, 6), (⟨"RelocatingPatch", "memoryValue", "(II)I"⟩, 6), (⟨"RelocatingPatchModel", "isNew", "(I)Z"⟩, 19), (⟨"RelocatingPatchModel", "longestRun", "()I"⟩, 19), (⟨"RelocatingPatchModel", "findsRuns", "()V"⟩, 19), (⟨"RelocatingPatchModel", "matches", "(II)Z"⟩, 19), (⟨"RelocatingPatchModel", "takes", "(I)V"⟩, 19), (⟨"RelocatingPatchModel", "numbers", "()V"⟩, 19), (⟨"RelocatingPatchModel", "orders", "()V"⟩, 19)]
theorem lw_r2 : ∀ q ∈ lw_privs_2, lw_okq q := List.forall_mem_cons.mpr ⟨lw_p16, List.forall_mem_cons.mpr ⟨lw_p17, List.forall_mem_cons.mpr ⟨lw_p18, List.forall_mem_cons.mpr ⟨lw_p19, List.forall_mem_cons.mpr ⟨lw_p20, List.forall_mem_cons.mpr ⟨lw_p21, List.forall_mem_cons.mpr ⟨lw_p22, List.forall_mem_cons.mpr ⟨lw_p23, List.forall_mem_cons.mpr ⟨lw_p24, List.forall_mem_cons.mpr ⟨lw_p25, List.forall_mem_cons.mpr ⟨lw_p26, List.forall_mem_cons.mpr ⟨lw_p27, List.forall_mem_cons.mpr ⟨lw_p28, List.forall_mem_cons.mpr ⟨lw_p29, List.forall_mem_cons.mpr ⟨lw_p30, List.forall_mem_cons.mpr ⟨lw_p31, fun _ h => absurd h List.not_mem_nil⟩⟩⟩⟩⟩⟩⟩⟩⟩⟩⟩⟩⟩⟩⟩⟩
theorem lw_p32 : lw_okq (⟨"RelocatingPatchModel", "firstReady", "()I"⟩, 19) := ⟨⟨by decide +kernel, by decide +kernel⟩, List.mem_of_getElem? (i := 450) (by decide +kernel), List.mem_of_getElem? (i := 577) (by decide +kernel), List.mem_of_getElem? (i := 578) (by decide +kernel)⟩
theorem lw_p33 : lw_okq (⟨"RelocatingPatchModel", "isReady", "(I)Z"⟩, 19) := ⟨⟨by decide +kernel, by decide +kernel⟩, List.mem_of_getElem? (i := 450) (by decide +kernel), List.mem_of_getElem? (i := 581) (by decide +kernel), List.mem_of_getElem? (i := 582) (by decide +kernel)⟩
theorem lw_p34 : lw_okq (⟨"RelocatingPatchModel", "isBefore", "(II)Z"⟩, 19) := ⟨⟨by decide +kernel, by decide +kernel⟩, List.mem_of_getElem? (i := 450) (by decide +kernel), List.mem_of_getElem? (i := 585) (by decide +kernel), List.mem_of_getElem? (i := 586) (by decide +kernel)⟩
theorem lw_p35 : lw_okq (⟨"RelocatingPatchModel", "shortest", "()I"⟩, 19) := ⟨⟨by decide +kernel, by decide +kernel⟩, List.mem_of_getElem? (i := 450) (by decide +kernel), List.mem_of_getElem? (i := 589) (by decide +kernel), List.mem_of_getElem? (i := 590) (by decide +kernel)⟩
theorem lw_p36 : lw_okq (⟨"RelocatingPatchModel", "ofBlock", "(I[I)I"⟩, 19) := ⟨⟨by decide +kernel, by decide +kernel⟩, List.mem_of_getElem? (i := 450) (by decide +kernel), List.mem_of_getElem? (i := 597) (by decide +kernel), List.mem_of_getElem? (i := 598) (by decide +kernel)⟩
theorem lw_p37 : lw_okq (⟨"RelocatingPatchModel", "predicts", "(I)I"⟩, 19) := ⟨⟨by decide +kernel, by decide +kernel⟩, List.mem_of_getElem? (i := 450) (by decide +kernel), List.mem_of_getElem? (i := 617) (by decide +kernel), List.mem_of_getElem? (i := 618) (by decide +kernel)⟩
theorem lw_p38 : lw_okq (⟨"RelocatingPatchModel", "predictedAt", "(I)I"⟩, 19) := ⟨⟨by decide +kernel, by decide +kernel⟩, List.mem_of_getElem? (i := 450) (by decide +kernel), List.mem_of_getElem? (i := 625) (by decide +kernel), List.mem_of_getElem? (i := 626) (by decide +kernel)⟩
theorem lw_p39 : lw_okq (⟨"RelocatingPatchModel", "oldIndexOf", "(I)I"⟩, 19) := ⟨⟨by decide +kernel, by decide +kernel⟩, List.mem_of_getElem? (i := 450) (by decide +kernel), List.mem_of_getElem? (i := 629) (by decide +kernel), List.mem_of_getElem? (i := 630) (by decide +kernel)⟩
theorem lw_p40 : lw_okq (⟨"RelocatingPatchModel", "corrections", "()I"⟩, 19) := ⟨⟨by decide +kernel, by decide +kernel⟩, List.mem_of_getElem? (i := 450) (by decide +kernel), List.mem_of_getElem? (i := 637) (by decide +kernel), List.mem_of_getElem? (i := 638) (by decide +kernel)⟩
theorem lw_p41 : lw_okq (⟨"RelocatingPatchModel", "isCorrected", "(I)Z"⟩, 19) := ⟨⟨by decide +kernel, by decide +kernel⟩, List.mem_of_getElem? (i := 450) (by decide +kernel), List.mem_of_getElem? (i := 641) (by decide +kernel), List.mem_of_getElem? (i := 642) (by decide +kernel)⟩
theorem lw_p42 : lw_okq (⟨"RelocatingPatchModel", "literals", "()I"⟩, 19) := ⟨⟨by decide +kernel, by decide +kernel⟩, List.mem_of_getElem? (i := 450) (by decide +kernel), List.mem_of_getElem? (i := 653) (by decide +kernel), List.mem_of_getElem? (i := 654) (by decide +kernel)⟩
theorem lw_p43 : lw_okq (⟨"RelocatingPatchModel", "isCopied", "(I)Z"⟩, 19) := ⟨⟨by decide +kernel, by decide +kernel⟩, List.mem_of_getElem? (i := 450) (by decide +kernel), List.mem_of_getElem? (i := 681) (by decide +kernel), List.mem_of_getElem? (i := 682) (by decide +kernel)⟩
theorem lw_p44 : lw_okq (⟨"RelocatingPatchModel", "plays", "(I)V"⟩, 19) := ⟨⟨by decide +kernel, by decide +kernel⟩, List.mem_of_getElem? (i := 450) (by decide +kernel), List.mem_of_getElem? (i := 689) (by decide +kernel), List.mem_of_getElem? (i := 690) (by decide +kernel)⟩
def lw_privs_3 : List (MethodName × Nat) := [(⟨"RelocatingPatchModel", "firstReady", "()I"⟩, 19), (⟨"RelocatingPatchModel", "isReady", "(I)Z"⟩, 19), (⟨"RelocatingPatchModel", "isBefore", "(II)Z"⟩, 19), (⟨"RelocatingPatchModel", "shortest", "()I"⟩, 19), (⟨"RelocatingPatchModel", "ofBlock", "(I[I)I"⟩, 19), (⟨"RelocatingPatchModel", "predicts", "(I)I"⟩, 19), (⟨"RelocatingPatchModel", "predictedAt", "(I)I"⟩, 19), (⟨"RelocatingPatchModel", "oldIndexOf", "(I)I"⟩, 19), (⟨"RelocatingPatchModel", "corrections", "()I"⟩, 19), (⟨"RelocatingPatchModel", "isCorrected", "(I)Z"⟩, 19), (⟨"RelocatingPatchModel", "literals", "()I"⟩, 19), (⟨"RelocatingPatchModel", "isCopied", "(I)Z"⟩, 19), (⟨"RelocatingPatchModel", "plays", "(I)V"⟩, 19)]
theorem lw_r3 : ∀ q ∈ lw_privs_3, lw_okq q := List.forall_mem_cons.mpr ⟨lw_p32, List.forall_mem_cons.mpr ⟨lw_p33, List.forall_mem_cons.mpr ⟨lw_p34, List.forall_mem_cons.mpr ⟨lw_p35, List.forall_mem_cons.mpr ⟨lw_p36, List.forall_mem_cons.mpr ⟨lw_p37, List.forall_mem_cons.mpr ⟨lw_p38, List.forall_mem_cons.mpr ⟨lw_p39, List.forall_mem_cons.mpr ⟨lw_p40, List.forall_mem_cons.mpr ⟨lw_p41, List.forall_mem_cons.mpr ⟨lw_p42, List.forall_mem_cons.mpr ⟨lw_p43, List.forall_mem_cons.mpr ⟨lw_p44, fun _ h => absurd h List.not_mem_nil⟩⟩⟩⟩⟩⟩⟩⟩⟩⟩⟩⟩⟩
def lw_privs : List (MethodName × Nat) := lw_privs_1 ++ (lw_privs_2 ++ (lw_privs_3))
def lw_tbl : List Cond := k2_sels lw_privs ++ tables_1
theorem lw_privs_ok : ∀ q ∈ lw_privs, lw_okq q := by
  show ∀ q ∈ lw_privs_1 ++ (lw_privs_2 ++ (lw_privs_3)), lw_okq q
  exact List.forall_mem_append.mpr ⟨lw_r1, List.forall_mem_append.mpr ⟨lw_r2, lw_r3⟩⟩
end
section
theorem goodIn_r {big : List Cond} (ws : List Cond) (ps : List Nat) (hp : ws = ps.filterMap (fun i => big[i]?)) (h : ws.all goodWord = true) : GoodIn big ws := by
  intro w hw
  have h1 := List.all_eq_true.mp h w hw
  rw [hp] at hw
  obtain ⟨i, -, hi⟩ := List.mem_filterMap.mp hw
  have hm : w ∈ big := by first | exact List.mem_of_getElem? hi | exact List.getElem?_mem hi
  exact ⟨hm, good_of_word h1⟩
theorem goodIn_app {big a b : List Cond} (ha : GoodIn big a) (hb : GoodIn big b) : GoodIn big (a ++ b) := fun w h => (List.mem_append.mp h).elim (ha w) (hb w)
theorem goodIn_ca {big a b : List Cond} {c : Cond} (ha : GoodIn big (c :: a)) (hb : GoodIn big b) : GoodIn big (c :: (a ++ b)) := fun w h => (List.mem_cons.mp h).elim (fun e => ha w (List.mem_cons.mpr (Or.inl e))) (fun h => (List.mem_append.mp h).elim (fun h => ha w (List.mem_cons.mpr (Or.inr h))) (hb w))
theorem goodIn_sub {big ws : List Cond} (hm : ∀ w ∈ ws, w ∈ big) (h : ws.all goodWord = true) : GoodIn big ws := fun w hw => ⟨hm w hw, good_of_word (List.all_eq_true.mp h w hw)⟩

def RX0 : String := "RelocatingPatch$Aligner"
def TX0 : u_T := fun k => match k with
  | 0 => ("RelocatingPatch$Aligner", "oldTaken", "[Z", true)
  | 1 => ("RelocatingPatch$Aligner", "newTaken", "[Z", true)
  | 2 => ("RelocatingPatch$Aligner", "runs", "[I", true)
  | 3 => ("RelocatingPatch$Aligner", "bestOld", "I", false)
  | 4 => ("RelocatingPatch$Aligner", "bestNew", "I", false)
  | _ => ("RelocatingPatch$Aligner", "bestLength", "I", false)
def tyX0 : Nat → FieldType := fun k => match k with
  | 0 => .array .boolean
  | 1 => .array .boolean
  | 2 => .array .int
  | 3 => .int
  | 4 => .int
  | _ => .int
abbrev wsX00 : List Cond := u_ws RX0 TX0 6
theorem nmX0 : ∀ a, a < 6 → ∀ b, b < 6 → a ≠ b → (TX0 a).2.1 ≠ (TX0 b).2.1 := by decide +kernel
theorem tyX0_ok : ∀ k, k < 6 → parseFieldDescriptor (TX0 k).2.2.1 = some (tyX0 k) := by decide +kernel
abbrev cX0_init : ByteArray := prog_2_method_1_code
def yX0_init : MethodName := ⟨RX0, "<init>", "()V"⟩
abbrev cX0_align : ByteArray := prog_2_method_2_code
def yX0_align : MethodName := ⟨RX0, "align", "(LRelocatingPatch$Image;LRelocatingPatch$Image;LRelocatingPatch$Blocks;I)V"⟩
abbrev cX0_freeAllWords : ByteArray := prog_2_method_3_code
def yX0_freeAllWords : MethodName := ⟨RX0, "freeAllWords", "()V"⟩
abbrev cX0_findLongestRun : ByteArray := prog_2_method_4_code
def yX0_findLongestRun : MethodName := ⟨RX0, "findLongestRun", "(LRelocatingPatch$Image;LRelocatingPatch$Image;)V"⟩
abbrev cX0_extendRuns : ByteArray := prog_2_method_5_code
def yX0_extendRuns : MethodName := ⟨RX0, "extendRuns", "(LRelocatingPatch$Image;LRelocatingPatch$Image;I)V"⟩
abbrev cX0_isBetter : ByteArray := prog_2_method_6_code
def yX0_isBetter : MethodName := ⟨RX0, "isBetter", "(II)Z"⟩
abbrev cX0_isFree : ByteArray := prog_2_method_7_code
def yX0_isFree : MethodName := ⟨RX0, "isFree", "(II)Z"⟩
abbrev cX0_wordsMatch : ByteArray := prog_2_method_8_code
def yX0_wordsMatch : MethodName := ⟨RX0, "wordsMatch", "(LRelocatingPatch$Image;ILRelocatingPatch$Image;I)Z"⟩
abbrev cX0_takeLongestRun : ByteArray := prog_2_method_9_code
def yX0_takeLongestRun : MethodName := ⟨RX0, "takeLongestRun", "()V"⟩
def RX1 : String := "RelocatingPatch$Blocks"
def TX1 : u_T := fun k => match k with
  | 0 => ("RelocatingPatch$Blocks", "oldStarts", "[I", true)
  | 1 => ("RelocatingPatch$Blocks", "newStarts", "[I", true)
  | 2 => ("RelocatingPatch$Blocks", "lengths", "[I", true)
  | _ => ("RelocatingPatch$Blocks", "size", "I", false)
def tyX1 : Nat → FieldType := fun k => match k with
  | 0 => .array .int
  | 1 => .array .int
  | 2 => .array .int
  | _ => .int
abbrev wsX10 : List Cond := u_ws RX1 TX1 4
theorem nmX1 : ∀ a, a < 4 → ∀ b, b < 4 → a ≠ b → (TX1 a).2.1 ≠ (TX1 b).2.1 := by decide +kernel
theorem tyX1_ok : ∀ k, k < 4 → parseFieldDescriptor (TX1 k).2.2.1 = some (tyX1 k) := by decide +kernel
abbrev cX1_init : ByteArray := prog_3_method_1_code
def yX1_init : MethodName := ⟨RX1, "<init>", "()V"⟩
abbrev cX1_size : ByteArray := prog_3_method_2_code
def yX1_size : MethodName := ⟨RX1, "size", "()I"⟩
abbrev cX1_has : ByteArray := prog_3_method_3_code
def yX1_has : MethodName := ⟨RX1, "has", "(I)Z"⟩
abbrev cX1_oldStart : ByteArray := prog_3_method_4_code
def yX1_oldStart : MethodName := ⟨RX1, "oldStart", "(I)I"⟩
abbrev cX1_newStart : ByteArray := prog_3_method_5_code
def yX1_newStart : MethodName := ⟨RX1, "newStart", "(I)I"⟩
abbrev cX1_length : ByteArray := prog_3_method_6_code
def yX1_length : MethodName := ⟨RX1, "length", "(I)I"⟩
abbrev cX1_oldIndex : ByteArray := prog_3_method_7_code
def yX1_oldIndex : MethodName := ⟨RX1, "oldIndex", "(II)I"⟩
abbrev cX1_covers : ByteArray := prog_3_method_8_code
def yX1_covers : MethodName := ⟨RX1, "covers", "(II)Z"⟩
abbrev cX1_withNewIndex : ByteArray := prog_3_method_9_code
def yX1_withNewIndex : MethodName := ⟨RX1, "withNewIndex", "(I)I"⟩
abbrev cX1_moved : ByteArray := prog_3_method_10_code
def yX1_moved : MethodName := ⟨RX1, "moved", "(I)I"⟩
abbrev cX1_mustGoBefore : ByteArray := prog_3_method_11_code
def yX1_mustGoBefore : MethodName := ⟨RX1, "mustGoBefore", "(II)Z"⟩
abbrev cX1_removeAll : ByteArray := prog_3_method_12_code
def yX1_removeAll : MethodName := ⟨RX1, "removeAll", "()V"⟩
abbrev cX1_insert : ByteArray := prog_3_method_13_code
def yX1_insert : MethodName := ⟨RX1, "insert", "(III)V"⟩
def RX2 : String := "RelocatingPatch$CopyOrder"
def TX2 : u_T := fun k => match k with
  | 0 => ("RelocatingPatch$CopyOrder", "order", "[I", true)
  | 1 => ("RelocatingPatch$CopyOrder", "waiting", "[Z", true)
  | 2 => ("RelocatingPatch$CopyOrder", "dropped", "[Z", true)
  | _ => ("RelocatingPatch$CopyOrder", "steps", "I", false)
def tyX2 : Nat → FieldType := fun k => match k with
  | 0 => .array .int
  | 1 => .array .boolean
  | 2 => .array .boolean
  | _ => .int
abbrev wsX20 : List Cond := u_ws RX2 TX2 4
theorem nmX2 : ∀ a, a < 4 → ∀ b, b < 4 → a ≠ b → (TX2 a).2.1 ≠ (TX2 b).2.1 := by decide +kernel
theorem tyX2_ok : ∀ k, k < 4 → parseFieldDescriptor (TX2 k).2.2.1 = some (tyX2 k) := by decide +kernel
abbrev cX2_init : ByteArray := prog_4_method_1_code
def yX2_init : MethodName := ⟨RX2, "<init>", "()V"⟩
abbrev cX2_steps : ByteArray := prog_4_method_2_code
def yX2_steps : MethodName := ⟨RX2, "steps", "()I"⟩
abbrev cX2_hasStep : ByteArray := prog_4_method_3_code
def yX2_hasStep : MethodName := ⟨RX2, "hasStep", "(I)Z"⟩
abbrev cX2_blockOfStep : ByteArray := prog_4_method_4_code
def yX2_blockOfStep : MethodName := ⟨RX2, "blockOfStep", "(I)I"⟩
abbrev cX2_drops : ByteArray := prog_4_method_5_code
def yX2_drops : MethodName := ⟨RX2, "drops", "(I)Z"⟩
abbrev cX2_origin : ByteArray := prog_4_method_6_code
def yX2_origin : MethodName := ⟨RX2, "origin", "(LRelocatingPatch$Blocks;II)I"⟩
abbrev cX2_arrange : ByteArray := prog_4_method_7_code
def yX2_arrange : MethodName := ⟨RX2, "arrange", "(LRelocatingPatch$Blocks;)V"⟩
abbrev cX2_waits : ByteArray := prog_4_method_8_code
def yX2_waits : MethodName := ⟨RX2, "waits", "(I)Z"⟩
abbrev cX2_firstReady : ByteArray := prog_4_method_9_code
def yX2_firstReady : MethodName := ⟨RX2, "firstReady", "(LRelocatingPatch$Blocks;)I"⟩
abbrev cX2_isReady : ByteArray := prog_4_method_10_code
def yX2_isReady : MethodName := ⟨RX2, "isReady", "(LRelocatingPatch$Blocks;I)Z"⟩
abbrev cX2_shortestWaiting : ByteArray := prog_4_method_11_code
def yX2_shortestWaiting : MethodName := ⟨RX2, "shortestWaiting", "(LRelocatingPatch$Blocks;)I"⟩
abbrev cX2_copy : ByteArray := prog_4_method_12_code
def yX2_copy : MethodName := ⟨RX2, "copy", "(I)V"⟩
abbrev cX2_drop : ByteArray := prog_4_method_13_code
def yX2_drop : MethodName := ⟨RX2, "drop", "(I)V"⟩
def RX3 : String := "RelocatingPatch$Image"
def TX3 : u_T := fun k => match k with
  | 0 => ("RelocatingPatch$Image", "values", "[I", true)
  | 1 => ("RelocatingPatch$Image", "addresses", "[Z", true)
  | _ => ("RelocatingPatch$Image", "size", "I", false)
def tyX3 : Nat → FieldType := fun k => match k with
  | 0 => .array .int
  | 1 => .array .boolean
  | _ => .int
abbrev wsX30 : List Cond := u_ws RX3 TX3 3
theorem nmX3 : ∀ a, a < 3 → ∀ b, b < 3 → a ≠ b → (TX3 a).2.1 ≠ (TX3 b).2.1 := by decide +kernel
theorem tyX3_ok : ∀ k, k < 3 → parseFieldDescriptor (TX3 k).2.2.1 = some (tyX3 k) := by decide +kernel
abbrev cX3_init : ByteArray := prog_5_method_1_code
def yX3_init : MethodName := ⟨RX3, "<init>", "()V"⟩
abbrev cX3_size : ByteArray := prog_5_method_2_code
def yX3_size : MethodName := ⟨RX3, "size", "()I"⟩
abbrev cX3_isFull : ByteArray := prog_5_method_3_code
def yX3_isFull : MethodName := ⟨RX3, "isFull", "()Z"⟩
abbrev cX3_holds : ByteArray := prog_5_method_4_code
def yX3_holds : MethodName := ⟨RX3, "holds", "(I)Z"⟩
abbrev cX3_valueAt : ByteArray := prog_5_method_5_code
def yX3_valueAt : MethodName := ⟨RX3, "valueAt", "(I)I"⟩
abbrev cX3_isAddress : ByteArray := prog_5_method_6_code
def yX3_isAddress : MethodName := ⟨RX3, "isAddress", "(I)Z"⟩
abbrev cX3_add : ByteArray := prog_5_method_7_code
def yX3_add : MethodName := ⟨RX3, "add", "(IZ)V"⟩
abbrev cX3_replace : ByteArray := prog_5_method_8_code
def yX3_replace : MethodName := ⟨RX3, "replace", "(II)V"⟩
abbrev cX3_removeAll : ByteArray := prog_5_method_9_code
def yX3_removeAll : MethodName := ⟨RX3, "removeAll", "()V"⟩
def RX4 : String := "RelocatingPatch"
def TX4 : u_T := fun k => match k with
  | 0 => ("RelocatingPatch", "oldImage", "LRelocatingPatch$Image;", true)
  | 1 => ("RelocatingPatch", "newImage", "LRelocatingPatch$Image;", true)
  | 2 => ("RelocatingPatch", "blocks", "LRelocatingPatch$Blocks;", true)
  | 3 => ("RelocatingPatch", "aligner", "LRelocatingPatch$Aligner;", true)
  | 4 => ("RelocatingPatch", "copyOrder", "LRelocatingPatch$CopyOrder;", true)
  | _ => ("RelocatingPatch", "built", "Z", false)
def tyX4 : Nat → FieldType := fun k => match k with
  | 0 => .object "RelocatingPatch$Image"
  | 1 => .object "RelocatingPatch$Image"
  | 2 => .object "RelocatingPatch$Blocks"
  | 3 => .object "RelocatingPatch$Aligner"
  | 4 => .object "RelocatingPatch$CopyOrder"
  | _ => .boolean
abbrev wsX40 : List Cond := u_ws RX4 TX4 6
theorem nmX4 : ∀ a, a < 6 → ∀ b, b < 6 → a ≠ b → (TX4 a).2.1 ≠ (TX4 b).2.1 := by decide +kernel
theorem tyX4_ok : ∀ k, k < 6 → parseFieldDescriptor (TX4 k).2.2.1 = some (tyX4 k) := by decide +kernel
abbrev cX4_init : ByteArray := prog_1_method_1_code
def yX4_init : MethodName := ⟨RX4, "<init>", "()V"⟩
abbrev cX4_appendOld : ByteArray := prog_1_method_2_code
def yX4_appendOld : MethodName := ⟨RX4, "appendOld", "(IZ)I"⟩
abbrev cX4_appendNew : ByteArray := prog_1_method_3_code
def yX4_appendNew : MethodName := ⟨RX4, "appendNew", "(IZ)I"⟩
abbrev cX4_setNew : ByteArray := prog_1_method_4_code
def yX4_setNew : MethodName := ⟨RX4, "setNew", "(II)I"⟩
abbrev cX4_clear : ByteArray := prog_1_method_5_code
def yX4_clear : MethodName := ⟨RX4, "clear", "()I"⟩
abbrev cX4_oldLength : ByteArray := prog_1_method_6_code
def yX4_oldLength : MethodName := ⟨RX4, "oldLength", "()I"⟩
abbrev cX4_newLength : ByteArray := prog_1_method_7_code
def yX4_newLength : MethodName := ⟨RX4, "newLength", "()I"⟩
abbrev cX4_newValue : ByteArray := prog_1_method_8_code
def yX4_newValue : MethodName := ⟨RX4, "newValue", "(I)I"⟩
abbrev cX4_append : ByteArray := prog_1_method_9_code
def yX4_append : MethodName := ⟨RX4, "append", "(LRelocatingPatch$Image;IZ)I"⟩
abbrev cX4_isValue : ByteArray := prog_1_method_10_code
def yX4_isValue : MethodName := ⟨RX4, "isValue", "(I)Z"⟩
abbrev cX4_build : ByteArray := prog_1_method_11_code
def yX4_build : MethodName := ⟨RX4, "build", "(I)I"⟩
abbrev cX4_blockOldStart : ByteArray := prog_1_method_12_code
def yX4_blockOldStart : MethodName := ⟨RX4, "blockOldStart", "(I)I"⟩
abbrev cX4_blockNewStart : ByteArray := prog_1_method_13_code
def yX4_blockNewStart : MethodName := ⟨RX4, "blockNewStart", "(I)I"⟩
abbrev cX4_blockLength : ByteArray := prog_1_method_14_code
def yX4_blockLength : MethodName := ⟨RX4, "blockLength", "(I)I"⟩
abbrev cX4_blockOf : ByteArray := prog_1_method_15_code
def yX4_blockOf : MethodName := ⟨RX4, "blockOf", "(I)I"⟩
abbrev cX4_blockError : ByteArray := prog_1_method_16_code
def yX4_blockError : MethodName := ⟨RX4, "blockError", "(I)I"⟩
abbrev cX4_newWordError : ByteArray := prog_1_method_17_code
def yX4_newWordError : MethodName := ⟨RX4, "newWordError", "(I)I"⟩
abbrev cX4_predictedAddress : ByteArray := prog_1_method_18_code
def yX4_predictedAddress : MethodName := ⟨RX4, "predictedAddress", "(I)I"⟩
abbrev cX4_predictedValue : ByteArray := prog_1_method_19_code
def yX4_predictedValue : MethodName := ⟨RX4, "predictedValue", "(I)I"⟩
abbrev cX4_correctionCount : ByteArray := prog_1_method_20_code
def yX4_correctionCount : MethodName := ⟨RX4, "correctionCount", "()I"⟩
abbrev cX4_correctionIndex : ByteArray := prog_1_method_21_code
def yX4_correctionIndex : MethodName := ⟨RX4, "correctionIndex", "(I)I"⟩
abbrev cX4_literalCount : ByteArray := prog_1_method_22_code
def yX4_literalCount : MethodName := ⟨RX4, "literalCount", "()I"⟩
abbrev cX4_patchSize : ByteArray := prog_1_method_23_code
def yX4_patchSize : MethodName := ⟨RX4, "patchSize", "()I"⟩
abbrev cX4_unpredictedSize : ByteArray := prog_1_method_24_code
def yX4_unpredictedSize : MethodName := ⟨RX4, "unpredictedSize", "()I"⟩
abbrev cX4_prediction : ByteArray := prog_1_method_25_code
def yX4_prediction : MethodName := ⟨RX4, "prediction", "(II)I"⟩
abbrev cX4_needsCorrection : ByteArray := prog_1_method_26_code
def yX4_needsCorrection : MethodName := ⟨RX4, "needsCorrection", "(I)Z"⟩
abbrev cX4_isChanged : ByteArray := prog_1_method_27_code
def yX4_isChanged : MethodName := ⟨RX4, "isChanged", "(I)Z"⟩
abbrev cX4_corrections : ByteArray := prog_1_method_28_code
def yX4_corrections : MethodName := ⟨RX4, "corrections", "()I"⟩
abbrev cX4_changedWords : ByteArray := prog_1_method_29_code
def yX4_changedWords : MethodName := ⟨RX4, "changedWords", "()I"⟩
abbrev cX4_literals : ByteArray := prog_1_method_30_code
def yX4_literals : MethodName := ⟨RX4, "literals", "()I"⟩
abbrev cX4_blocksAndLiteralsCost : ByteArray := prog_1_method_31_code
def yX4_blocksAndLiteralsCost : MethodName := ⟨RX4, "blocksAndLiteralsCost", "()I"⟩
abbrev cX4_copyCount : ByteArray := prog_1_method_32_code
def yX4_copyCount : MethodName := ⟨RX4, "copyCount", "()I"⟩
abbrev cX4_copyStep : ByteArray := prog_1_method_33_code
def yX4_copyStep : MethodName := ⟨RX4, "copyStep", "(I)I"⟩
abbrev cX4_isDropped : ByteArray := prog_1_method_34_code
def yX4_isDropped : MethodName := ⟨RX4, "isDropped", "(I)I"⟩
abbrev cX4_inPlaceSize : ByteArray := prog_1_method_35_code
def yX4_inPlaceSize : MethodName := ⟨RX4, "inPlaceSize", "()I"⟩
abbrev cX4_memoryAfter : ByteArray := prog_1_method_36_code
def yX4_memoryAfter : MethodName := ⟨RX4, "memoryAfter", "(II)I"⟩
abbrev cX4_patchedValue : ByteArray := prog_1_method_37_code
def yX4_patchedValue : MethodName := ⟨RX4, "patchedValue", "(I)I"⟩
abbrev cX4_isCopied : ByteArray := prog_1_method_38_code
def yX4_isCopied : MethodName := ⟨RX4, "isCopied", "(I)Z"⟩
abbrev cX4_inPlaceWordCost : ByteArray := prog_1_method_39_code
def yX4_inPlaceWordCost : MethodName := ⟨RX4, "inPlaceWordCost", "(I)I"⟩
abbrev cX4_memoryValue : ByteArray := prog_1_method_40_code
def yX4_memoryValue : MethodName := ⟨RX4, "memoryValue", "(II)I"⟩
def RX5 : String := "RelocatingPatchModel"
def TX5 : u_T := fun k => match k with
  | 0 => ("RelocatingPatchModel", "olds", "I", false)
  | 1 => ("RelocatingPatchModel", "oldValue", "[I", true)
  | 2 => ("RelocatingPatchModel", "oldAddress", "[Z", true)
  | 3 => ("RelocatingPatchModel", "news", "I", false)
  | 4 => ("RelocatingPatchModel", "newValues", "[I", true)
  | 5 => ("RelocatingPatchModel", "newAddress", "[Z", true)
  | 6 => ("RelocatingPatchModel", "isBuilt", "Z", false)
  | 7 => ("RelocatingPatchModel", "blocks", "I", false)
  | 8 => ("RelocatingPatchModel", "oldStart", "[I", true)
  | 9 => ("RelocatingPatchModel", "newStart", "[I", true)
  | 10 => ("RelocatingPatchModel", "length", "[I", true)
  | 11 => ("RelocatingPatchModel", "blockAt", "[I", true)
  | 12 => ("RelocatingPatchModel", "isTaken", "[Z", true)
  | 13 => ("RelocatingPatchModel", "run", "[I", true)
  | 14 => ("RelocatingPatchModel", "copies", "I", false)
  | 15 => ("RelocatingPatchModel", "copied", "[I", true)
  | 16 => ("RelocatingPatchModel", "stateOf", "[I", true)
  | 17 => ("RelocatingPatchModel", "memory", "[I", true)
  | _ => ("RelocatingPatchModel", "buffer", "[I", true)
def tyX5 : Nat → FieldType := fun k => match k with
  | 0 => .int
  | 1 => .array .int
  | 2 => .array .boolean
  | 3 => .int
  | 4 => .array .int
  | 5 => .array .boolean
  | 6 => .boolean
  | 7 => .int
  | 8 => .array .int
  | 9 => .array .int
  | 10 => .array .int
  | 11 => .array .int
  | 12 => .array .boolean
  | 13 => .array .int
  | 14 => .int
  | 15 => .array .int
  | 16 => .array .int
  | 17 => .array .int
  | _ => .array .int
abbrev wsX50 : List Cond := u_ws RX5 TX5 19
theorem nmX5 : ∀ a, a < 19 → ∀ b, b < 19 → a ≠ b → (TX5 a).2.1 ≠ (TX5 b).2.1 := by decide +kernel
theorem tyX5_ok : ∀ k, k < 19 → parseFieldDescriptor (TX5 k).2.2.1 = some (tyX5 k) := by decide +kernel
abbrev cX5_init : ByteArray := prog_7_method_1_code
def yX5_init : MethodName := ⟨RX5, "<init>", "()V"⟩
abbrev cX5_within : ByteArray := prog_7_method_2_code
def yX5_within : MethodName := ⟨RX5, "within", "(III)Z"⟩
abbrev cX5_isNew : ByteArray := prog_7_method_3_code
def yX5_isNew : MethodName := ⟨RX5, "isNew", "(I)Z"⟩
abbrev cX5_appendOld : ByteArray := prog_7_method_4_code
def yX5_appendOld : MethodName := ⟨RX5, "appendOld", "(IZ)I"⟩
abbrev cX5_appendNew : ByteArray := prog_7_method_5_code
def yX5_appendNew : MethodName := ⟨RX5, "appendNew", "(IZ)I"⟩
abbrev cX5_setNew : ByteArray := prog_7_method_6_code
def yX5_setNew : MethodName := ⟨RX5, "setNew", "(II)I"⟩
abbrev cX5_clear : ByteArray := prog_7_method_7_code
def yX5_clear : MethodName := ⟨RX5, "clear", "()I"⟩
abbrev cX5_oldLength : ByteArray := prog_7_method_8_code
def yX5_oldLength : MethodName := ⟨RX5, "oldLength", "()I"⟩
abbrev cX5_newLength : ByteArray := prog_7_method_9_code
def yX5_newLength : MethodName := ⟨RX5, "newLength", "()I"⟩
abbrev cX5_newValue : ByteArray := prog_7_method_10_code
def yX5_newValue : MethodName := ⟨RX5, "newValue", "(I)I"⟩
abbrev cX5_matches : ByteArray := prog_7_method_11_code
def yX5_matches : MethodName := ⟨RX5, "matches", "(II)Z"⟩
abbrev cX5_findsRuns : ByteArray := prog_7_method_12_code
def yX5_findsRuns : MethodName := ⟨RX5, "findsRuns", "()V"⟩
abbrev cX5_longestRun : ByteArray := prog_7_method_13_code
def yX5_longestRun : MethodName := ⟨RX5, "longestRun", "()I"⟩
abbrev cX5_takes : ByteArray := prog_7_method_14_code
def yX5_takes : MethodName := ⟨RX5, "takes", "(I)V"⟩
abbrev cX5_build : ByteArray := prog_7_method_15_code
def yX5_build : MethodName := ⟨RX5, "build", "(I)I"⟩
abbrev cX5_numbers : ByteArray := prog_7_method_16_code
def yX5_numbers : MethodName := ⟨RX5, "numbers", "()V"⟩
abbrev cX5_ofBlock : ByteArray := prog_7_method_17_code
def yX5_ofBlock : MethodName := ⟨RX5, "ofBlock", "(I[I)I"⟩
abbrev cX5_blockOldStart : ByteArray := prog_7_method_18_code
def yX5_blockOldStart : MethodName := ⟨RX5, "blockOldStart", "(I)I"⟩
abbrev cX5_blockNewStart : ByteArray := prog_7_method_19_code
def yX5_blockNewStart : MethodName := ⟨RX5, "blockNewStart", "(I)I"⟩
abbrev cX5_blockLength : ByteArray := prog_7_method_20_code
def yX5_blockLength : MethodName := ⟨RX5, "blockLength", "(I)I"⟩
abbrev cX5_blockOf : ByteArray := prog_7_method_21_code
def yX5_blockOf : MethodName := ⟨RX5, "blockOf", "(I)I"⟩
abbrev cX5_predicts : ByteArray := prog_7_method_22_code
def yX5_predicts : MethodName := ⟨RX5, "predicts", "(I)I"⟩
abbrev cX5_predictedAddress : ByteArray := prog_7_method_23_code
def yX5_predictedAddress : MethodName := ⟨RX5, "predictedAddress", "(I)I"⟩
abbrev cX5_oldIndexOf : ByteArray := prog_7_method_24_code
def yX5_oldIndexOf : MethodName := ⟨RX5, "oldIndexOf", "(I)I"⟩
abbrev cX5_predictedAt : ByteArray := prog_7_method_25_code
def yX5_predictedAt : MethodName := ⟨RX5, "predictedAt", "(I)I"⟩
abbrev cX5_predictedValue : ByteArray := prog_7_method_26_code
def yX5_predictedValue : MethodName := ⟨RX5, "predictedValue", "(I)I"⟩
abbrev cX5_isCorrected : ByteArray := prog_7_method_27_code
def yX5_isCorrected : MethodName := ⟨RX5, "isCorrected", "(I)Z"⟩
abbrev cX5_corrections : ByteArray := prog_7_method_28_code
def yX5_corrections : MethodName := ⟨RX5, "corrections", "()I"⟩
abbrev cX5_correctionCount : ByteArray := prog_7_method_29_code
def yX5_correctionCount : MethodName := ⟨RX5, "correctionCount", "()I"⟩
abbrev cX5_correctionIndex : ByteArray := prog_7_method_30_code
def yX5_correctionIndex : MethodName := ⟨RX5, "correctionIndex", "(I)I"⟩
abbrev cX5_literals : ByteArray := prog_7_method_31_code
def yX5_literals : MethodName := ⟨RX5, "literals", "()I"⟩
abbrev cX5_literalCount : ByteArray := prog_7_method_32_code
def yX5_literalCount : MethodName := ⟨RX5, "literalCount", "()I"⟩
abbrev cX5_patchSize : ByteArray := prog_7_method_33_code
def yX5_patchSize : MethodName := ⟨RX5, "patchSize", "()I"⟩
abbrev cX5_unpredictedSize : ByteArray := prog_7_method_34_code
def yX5_unpredictedSize : MethodName := ⟨RX5, "unpredictedSize", "()I"⟩
abbrev cX5_isBefore : ByteArray := prog_7_method_35_code
def yX5_isBefore : MethodName := ⟨RX5, "isBefore", "(II)Z"⟩
abbrev cX5_isReady : ByteArray := prog_7_method_36_code
def yX5_isReady : MethodName := ⟨RX5, "isReady", "(I)Z"⟩
abbrev cX5_firstReady : ByteArray := prog_7_method_37_code
def yX5_firstReady : MethodName := ⟨RX5, "firstReady", "()I"⟩
abbrev cX5_shortest : ByteArray := prog_7_method_38_code
def yX5_shortest : MethodName := ⟨RX5, "shortest", "()I"⟩
abbrev cX5_orders : ByteArray := prog_7_method_39_code
def yX5_orders : MethodName := ⟨RX5, "orders", "()V"⟩
abbrev cX5_copyCount : ByteArray := prog_7_method_40_code
def yX5_copyCount : MethodName := ⟨RX5, "copyCount", "()I"⟩
abbrev cX5_copyStep : ByteArray := prog_7_method_41_code
def yX5_copyStep : MethodName := ⟨RX5, "copyStep", "(I)I"⟩
abbrev cX5_isDropped : ByteArray := prog_7_method_42_code
def yX5_isDropped : MethodName := ⟨RX5, "isDropped", "(I)I"⟩
abbrev cX5_isCopied : ByteArray := prog_7_method_43_code
def yX5_isCopied : MethodName := ⟨RX5, "isCopied", "(I)Z"⟩
abbrev cX5_inPlaceSize : ByteArray := prog_7_method_44_code
def yX5_inPlaceSize : MethodName := ⟨RX5, "inPlaceSize", "()I"⟩
abbrev cX5_plays : ByteArray := prog_7_method_45_code
def yX5_plays : MethodName := ⟨RX5, "plays", "(I)V"⟩
abbrev cX5_memoryAfter : ByteArray := prog_7_method_46_code
def yX5_memoryAfter : MethodName := ⟨RX5, "memoryAfter", "(II)I"⟩
abbrev cX5_patchedValue : ByteArray := prog_7_method_47_code
def yX5_patchedValue : MethodName := ⟨RX5, "patchedValue", "(I)I"⟩
def RJ9 : String := "java/lang/Math"
def TJ9 : u_T := fun k => match k with
  | _ => ("", "", "", false)
def tyJ9 : Nat → FieldType := fun k => match k with
  | _ => .int
abbrev wsJ90 : List Cond := u_ws RJ9 TJ9 0
theorem nmJ9 : ∀ a, a < 0 → ∀ b, b < 0 → a ≠ b → (TJ9 a).2.1 ≠ (TJ9 b).2.1 := by decide +kernel
theorem tyJ9_ok : ∀ k, k < 0 → parseFieldDescriptor (TJ9 k).2.2.1 = some (tyJ9 k) := by decide +kernel
abbrev cJ9_max_7cf53 : ByteArray := prog_8_method_65_code
def yJ9_max_7cf53 : MethodName := ⟨RJ9, "max", "(II)I"⟩
def RL : String := "RelocatingPatchLaw"
abbrev cL_law : ByteArray := code
def yL_law : MethodName := ⟨RL, "law", "([I)Z"⟩
def wsX0_init : List Cond := .code yX0_init cX0_init 1 none :: ([.methodLink RX0 3 objectInit, .instanceMethod objectInit, .code objectInit ⟨#[0xb1]⟩ 1 none, .arrayClass .boolean, .fieldLink RX0 9 "RelocatingPatch$Aligner" "oldTaken" "[Z", .fieldLink RX0 15 "RelocatingPatch$Aligner" "newTaken" "[Z", .arrayClass .int, .fieldLink RX0 18 "RelocatingPatch$Aligner" "runs" "[I", .fieldLink RX0 22 "RelocatingPatch$Aligner" "bestOld" "I", .fieldLink RX0 26 "RelocatingPatch$Aligner" "bestNew" "I", .fieldLink RX0 29 "RelocatingPatch$Aligner" "bestLength" "I"] ++ wsX00)
def wsX1_removeAll : List Cond := .code yX1_removeAll cX1_removeAll 1 none :: ([.fieldLink RX1 21 "RelocatingPatch$Blocks" "size" "I"] ++ wsX10)
def wsX0_freeAllWords : List Cond := .code yX0_freeAllWords cX0_freeAllWords 2 none :: ([.fieldLink RX0 9 "RelocatingPatch$Aligner" "oldTaken" "[Z", .fieldLink RX0 15 "RelocatingPatch$Aligner" "newTaken" "[Z"] ++ wsX00)
def wsX3_size : List Cond := .code yX3_size cX3_size 1 (some .int) :: ([.fieldLink RX3 19 "RelocatingPatch$Image" "size" "I"] ++ wsX30)
def wsX0_isFree : List Cond := .code yX0_isFree cX0_isFree 3 (some .boolean) :: ([.fieldLink RX0 9 "RelocatingPatch$Aligner" "oldTaken" "[Z", .fieldLink RX0 15 "RelocatingPatch$Aligner" "newTaken" "[Z"] ++ wsX00)
def wsX3_holds : List Cond := .code yX3_holds cX3_holds 2 (some .boolean) :: ([.fieldLink RX3 19 "RelocatingPatch$Image" "size" "I"] ++ wsX30)
def wsX3_isAddress : List Cond := .code yX3_isAddress cX3_isAddress 2 (some .boolean) :: ([.fieldLink RX3 15 "RelocatingPatch$Image" "addresses" "[Z", .methodLink RX3 23 yX3_holds, .instanceMethod yX3_holds, .selects RX3 yX3_holds yX3_holds, .initialized RX3, .code yX3_holds cX3_holds 2 (some .boolean), .fieldLink RX3 19 "RelocatingPatch$Image" "size" "I"] ++ wsX30)
def wsX3_valueAt : List Cond := .code yX3_valueAt cX3_valueAt 2 (some .int) :: ([.fieldLink RX3 9 "RelocatingPatch$Image" "values" "[I", .methodLink RX3 23 yX3_holds, .instanceMethod yX3_holds, .selects RX3 yX3_holds yX3_holds, .initialized RX3, .code yX3_holds cX3_holds 2 (some .boolean), .fieldLink RX3 19 "RelocatingPatch$Image" "size" "I"] ++ wsX30)
def wsX0_wordsMatch : List Cond := .code yX0_wordsMatch cX0_wordsMatch 5 (some .boolean) :: ([.methodLink RX0 72 yX3_isAddress, .instanceMethod yX3_isAddress, .selects RX3 yX3_isAddress yX3_isAddress, .initialized RX3, .code yX3_isAddress cX3_isAddress 2 (some .boolean), .fieldLink RX3 15 "RelocatingPatch$Image" "addresses" "[Z", .methodLink RX3 23 yX3_holds, .instanceMethod yX3_holds, .selects RX3 yX3_holds yX3_holds, .code yX3_holds cX3_holds 2 (some .boolean), .fieldLink RX3 19 "RelocatingPatch$Image" "size" "I", .methodLink RX0 76 yX3_valueAt, .instanceMethod yX3_valueAt, .selects RX3 yX3_valueAt yX3_valueAt, .code yX3_valueAt cX3_valueAt 2 (some .int), .fieldLink RX3 9 "RelocatingPatch$Image" "values" "[I"] ++ wsX30)
def wsX0_isBetter : List Cond := .code yX0_isBetter cX0_isBetter 3 (some .boolean) :: ([.fieldLink RX0 29 "RelocatingPatch$Aligner" "bestLength" "I", .fieldLink RX0 26 "RelocatingPatch$Aligner" "bestNew" "I"] ++ wsX00)
def wsX0_extendRuns_r1 : List Cond := [Cond.fieldLink RX0 18 "RelocatingPatch$Aligner" "runs" "[I", Cond.fieldLink RX0 29 "RelocatingPatch$Aligner" "bestLength" "I", Cond.fieldLink RX0 26 "RelocatingPatch$Aligner" "bestNew" "I", Cond.fieldLink RX0 22 "RelocatingPatch$Aligner" "bestOld" "I", Cond.methodLink RX0 51 yX3_size, Cond.instanceMethod yX3_size, Cond.selects RX3 yX3_size yX3_size, Cond.initialized RX3, Cond.code yX3_size cX3_size 1 (some .int), Cond.fieldLink RX3 19 "RelocatingPatch$Image" "size" "I", Cond.methodLink RX0 61 yX0_isFree, Cond.instanceMethod yX0_isFree, Cond.selects RX0 yX0_isFree yX0_isFree, Cond.initialized RX0, Cond.code yX0_isFree cX0_isFree 3 (some .boolean), Cond.fieldLink RX0 9 "RelocatingPatch$Aligner" "oldTaken" "[Z", Cond.fieldLink RX0 15 "RelocatingPatch$Aligner" "newTaken" "[Z", Cond.methodLink RX0 65 yX0_wordsMatch, Cond.static yX0_wordsMatch, Cond.code yX0_wordsMatch cX0_wordsMatch 5 (some .boolean), Cond.methodLink RX0 72 yX3_isAddress, Cond.instanceMethod yX3_isAddress, Cond.selects RX3 yX3_isAddress yX3_isAddress, Cond.code yX3_isAddress cX3_isAddress 2 (some .boolean)]
def wsX0_extendRuns_r2 : List Cond := [Cond.fieldLink RX3 15 "RelocatingPatch$Image" "addresses" "[Z", Cond.methodLink RX3 23 yX3_holds, Cond.instanceMethod yX3_holds, Cond.selects RX3 yX3_holds yX3_holds, Cond.code yX3_holds cX3_holds 2 (some .boolean), Cond.methodLink RX0 76 yX3_valueAt, Cond.instanceMethod yX3_valueAt, Cond.selects RX3 yX3_valueAt yX3_valueAt, Cond.code yX3_valueAt cX3_valueAt 2 (some .int), Cond.fieldLink RX3 9 "RelocatingPatch$Image" "values" "[I", Cond.methodLink RX0 69 yX0_isBetter, Cond.instanceMethod yX0_isBetter, Cond.selects RX0 yX0_isBetter yX0_isBetter, Cond.code yX0_isBetter cX0_isBetter 3 (some .boolean)]
def wsX0_extendRuns : List Cond := .code yX0_extendRuns cX0_extendRuns 7 none :: ((wsX0_extendRuns_r1 ++ wsX0_extendRuns_r2) ++ wsX00 ++ wsX30)
def wsX0_findLongestRun_r1 : List Cond := [Cond.fieldLink RX0 22 "RelocatingPatch$Aligner" "bestOld" "I", Cond.fieldLink RX0 26 "RelocatingPatch$Aligner" "bestNew" "I", Cond.fieldLink RX0 29 "RelocatingPatch$Aligner" "bestLength" "I", Cond.fieldLink RX0 18 "RelocatingPatch$Aligner" "runs" "[I", Cond.methodLink RX0 51 yX3_size, Cond.instanceMethod yX3_size, Cond.selects RX3 yX3_size yX3_size, Cond.initialized RX3, Cond.code yX3_size cX3_size 1 (some .int), Cond.fieldLink RX3 19 "RelocatingPatch$Image" "size" "I", Cond.methodLink RX0 57 yX0_extendRuns, Cond.instanceMethod yX0_extendRuns, Cond.selects RX0 yX0_extendRuns yX0_extendRuns, Cond.initialized RX0, Cond.code yX0_extendRuns cX0_extendRuns 7 none, Cond.methodLink RX0 61 yX0_isFree, Cond.instanceMethod yX0_isFree, Cond.selects RX0 yX0_isFree yX0_isFree, Cond.code yX0_isFree cX0_isFree 3 (some .boolean), Cond.fieldLink RX0 9 "RelocatingPatch$Aligner" "oldTaken" "[Z", Cond.fieldLink RX0 15 "RelocatingPatch$Aligner" "newTaken" "[Z", Cond.methodLink RX0 65 yX0_wordsMatch, Cond.static yX0_wordsMatch, Cond.code yX0_wordsMatch cX0_wordsMatch 5 (some .boolean)]
def wsX0_findLongestRun_r2 : List Cond := [Cond.methodLink RX0 72 yX3_isAddress, Cond.instanceMethod yX3_isAddress, Cond.selects RX3 yX3_isAddress yX3_isAddress, Cond.code yX3_isAddress cX3_isAddress 2 (some .boolean), Cond.fieldLink RX3 15 "RelocatingPatch$Image" "addresses" "[Z", Cond.methodLink RX3 23 yX3_holds, Cond.instanceMethod yX3_holds, Cond.selects RX3 yX3_holds yX3_holds, Cond.code yX3_holds cX3_holds 2 (some .boolean), Cond.methodLink RX0 76 yX3_valueAt, Cond.instanceMethod yX3_valueAt, Cond.selects RX3 yX3_valueAt yX3_valueAt, Cond.code yX3_valueAt cX3_valueAt 2 (some .int), Cond.fieldLink RX3 9 "RelocatingPatch$Image" "values" "[I", Cond.methodLink RX0 69 yX0_isBetter, Cond.instanceMethod yX0_isBetter, Cond.selects RX0 yX0_isBetter yX0_isBetter, Cond.code yX0_isBetter cX0_isBetter 3 (some .boolean)]
def wsX0_findLongestRun : List Cond := .code yX0_findLongestRun cX0_findLongestRun 4 none :: ((wsX0_findLongestRun_r1 ++ wsX0_findLongestRun_r2) ++ wsX00 ++ wsX30)
def wsX0_takeLongestRun : List Cond := .code yX0_takeLongestRun cX0_takeLongestRun 2 none :: ([.fieldLink RX0 29 "RelocatingPatch$Aligner" "bestLength" "I", .fieldLink RX0 22 "RelocatingPatch$Aligner" "bestOld" "I", .fieldLink RX0 26 "RelocatingPatch$Aligner" "bestNew" "I", .fieldLink RX0 9 "RelocatingPatch$Aligner" "oldTaken" "[Z", .fieldLink RX0 15 "RelocatingPatch$Aligner" "newTaken" "[Z", .methodLink RX0 61 yX0_isFree, .instanceMethod yX0_isFree, .selects RX0 yX0_isFree yX0_isFree, .initialized RX0, .code yX0_isFree cX0_isFree 3 (some .boolean)] ++ wsX00)
def wsX1_insert : List Cond := .code yX1_insert cX1_insert 5 none :: ([.fieldLink RX1 21 "RelocatingPatch$Blocks" "size" "I", .fieldLink RX1 15 "RelocatingPatch$Blocks" "newStarts" "[I", .fieldLink RX1 9 "RelocatingPatch$Blocks" "oldStarts" "[I", .fieldLink RX1 18 "RelocatingPatch$Blocks" "lengths" "[I"] ++ wsX10)
def wsX0_align_r1 : List Cond := [Cond.fieldLink RX0 29 "RelocatingPatch$Aligner" "bestLength" "I", Cond.fieldLink RX0 22 "RelocatingPatch$Aligner" "bestOld" "I", Cond.fieldLink RX0 26 "RelocatingPatch$Aligner" "bestNew" "I", Cond.methodLink RX0 32 yX1_removeAll, Cond.instanceMethod yX1_removeAll, Cond.selects RX1 yX1_removeAll yX1_removeAll, Cond.initialized RX1, Cond.code yX1_removeAll cX1_removeAll 1 none, Cond.fieldLink RX1 21 "RelocatingPatch$Blocks" "size" "I", Cond.methodLink RX0 37 yX0_freeAllWords, Cond.instanceMethod yX0_freeAllWords, Cond.selects RX0 yX0_freeAllWords yX0_freeAllWords, Cond.initialized RX0, Cond.code yX0_freeAllWords cX0_freeAllWords 2 none, Cond.fieldLink RX0 9 "RelocatingPatch$Aligner" "oldTaken" "[Z", Cond.fieldLink RX0 15 "RelocatingPatch$Aligner" "newTaken" "[Z", Cond.methodLink RX0 40 yX0_findLongestRun, Cond.instanceMethod yX0_findLongestRun, Cond.selects RX0 yX0_findLongestRun yX0_findLongestRun, Cond.code yX0_findLongestRun cX0_findLongestRun 4 none, Cond.fieldLink RX0 18 "RelocatingPatch$Aligner" "runs" "[I", Cond.methodLink RX0 51 yX3_size, Cond.instanceMethod yX3_size, Cond.selects RX3 yX3_size yX3_size]
def wsX0_align_r2 : List Cond := [Cond.initialized RX3, Cond.code yX3_size cX3_size 1 (some .int), Cond.fieldLink RX3 19 "RelocatingPatch$Image" "size" "I", Cond.methodLink RX0 57 yX0_extendRuns, Cond.instanceMethod yX0_extendRuns, Cond.selects RX0 yX0_extendRuns yX0_extendRuns, Cond.code yX0_extendRuns cX0_extendRuns 7 none, Cond.methodLink RX0 61 yX0_isFree, Cond.instanceMethod yX0_isFree, Cond.selects RX0 yX0_isFree yX0_isFree, Cond.code yX0_isFree cX0_isFree 3 (some .boolean), Cond.methodLink RX0 65 yX0_wordsMatch, Cond.static yX0_wordsMatch, Cond.code yX0_wordsMatch cX0_wordsMatch 5 (some .boolean), Cond.methodLink RX0 72 yX3_isAddress, Cond.instanceMethod yX3_isAddress, Cond.selects RX3 yX3_isAddress yX3_isAddress, Cond.code yX3_isAddress cX3_isAddress 2 (some .boolean), Cond.fieldLink RX3 15 "RelocatingPatch$Image" "addresses" "[Z", Cond.methodLink RX3 23 yX3_holds, Cond.instanceMethod yX3_holds, Cond.selects RX3 yX3_holds yX3_holds, Cond.code yX3_holds cX3_holds 2 (some .boolean), Cond.methodLink RX0 76 yX3_valueAt]
def wsX0_align_r3 : List Cond := [Cond.instanceMethod yX3_valueAt, Cond.selects RX3 yX3_valueAt yX3_valueAt, Cond.code yX3_valueAt cX3_valueAt 2 (some .int), Cond.fieldLink RX3 9 "RelocatingPatch$Image" "values" "[I", Cond.methodLink RX0 69 yX0_isBetter, Cond.instanceMethod yX0_isBetter, Cond.selects RX0 yX0_isBetter yX0_isBetter, Cond.code yX0_isBetter cX0_isBetter 3 (some .boolean), Cond.methodLink RX0 44 yX0_takeLongestRun, Cond.instanceMethod yX0_takeLongestRun, Cond.selects RX0 yX0_takeLongestRun yX0_takeLongestRun, Cond.code yX0_takeLongestRun cX0_takeLongestRun 2 none, Cond.methodLink RX0 47 yX1_insert, Cond.instanceMethod yX1_insert, Cond.selects RX1 yX1_insert yX1_insert, Cond.code yX1_insert cX1_insert 5 none, Cond.fieldLink RX1 15 "RelocatingPatch$Blocks" "newStarts" "[I", Cond.fieldLink RX1 9 "RelocatingPatch$Blocks" "oldStarts" "[I", Cond.fieldLink RX1 18 "RelocatingPatch$Blocks" "lengths" "[I"]
def wsX0_align : List Cond := .code yX0_align cX0_align 6 none :: ((wsX0_align_r1 ++ (wsX0_align_r2 ++ wsX0_align_r3)) ++ wsX00 ++ wsX10 ++ wsX30)
def wsX1_init : List Cond := .code yX1_init cX1_init 1 none :: ([.methodLink RX1 3 objectInit, .instanceMethod objectInit, .code objectInit ⟨#[0xb1]⟩ 1 none, .arrayClass .int, .fieldLink RX1 9 "RelocatingPatch$Blocks" "oldStarts" "[I", .fieldLink RX1 15 "RelocatingPatch$Blocks" "newStarts" "[I", .fieldLink RX1 18 "RelocatingPatch$Blocks" "lengths" "[I", .fieldLink RX1 21 "RelocatingPatch$Blocks" "size" "I"] ++ wsX10)
def wsX1_size : List Cond := .code yX1_size cX1_size 1 (some .int) :: ([.fieldLink RX1 21 "RelocatingPatch$Blocks" "size" "I"] ++ wsX10)
def wsX1_has : List Cond := .code yX1_has cX1_has 2 (some .boolean) :: ([.fieldLink RX1 21 "RelocatingPatch$Blocks" "size" "I"] ++ wsX10)
def wsX1_oldStart : List Cond := .code yX1_oldStart cX1_oldStart 2 (some .int) :: ([.fieldLink RX1 9 "RelocatingPatch$Blocks" "oldStarts" "[I", .methodLink RX1 25 yX1_has, .instanceMethod yX1_has, .selects RX1 yX1_has yX1_has, .initialized RX1, .code yX1_has cX1_has 2 (some .boolean), .fieldLink RX1 21 "RelocatingPatch$Blocks" "size" "I"] ++ wsX10)
def wsX1_newStart : List Cond := .code yX1_newStart cX1_newStart 2 (some .int) :: ([.fieldLink RX1 15 "RelocatingPatch$Blocks" "newStarts" "[I", .methodLink RX1 25 yX1_has, .instanceMethod yX1_has, .selects RX1 yX1_has yX1_has, .initialized RX1, .code yX1_has cX1_has 2 (some .boolean), .fieldLink RX1 21 "RelocatingPatch$Blocks" "size" "I"] ++ wsX10)
def wsX1_length : List Cond := .code yX1_length cX1_length 2 (some .int) :: ([.fieldLink RX1 18 "RelocatingPatch$Blocks" "lengths" "[I", .methodLink RX1 25 yX1_has, .instanceMethod yX1_has, .selects RX1 yX1_has yX1_has, .initialized RX1, .code yX1_has cX1_has 2 (some .boolean), .fieldLink RX1 21 "RelocatingPatch$Blocks" "size" "I"] ++ wsX10)
def wsX1_oldIndex : List Cond := .code yX1_oldIndex cX1_oldIndex 3 (some .int) :: ([.methodLink RX1 29 yX1_newStart, .instanceMethod yX1_newStart, .selects RX1 yX1_newStart yX1_newStart, .initialized RX1, .code yX1_newStart cX1_newStart 2 (some .int), .fieldLink RX1 15 "RelocatingPatch$Blocks" "newStarts" "[I", .methodLink RX1 25 yX1_has, .instanceMethod yX1_has, .selects RX1 yX1_has yX1_has, .code yX1_has cX1_has 2 (some .boolean), .fieldLink RX1 21 "RelocatingPatch$Blocks" "size" "I", .methodLink RX1 33 yX1_oldStart, .instanceMethod yX1_oldStart, .selects RX1 yX1_oldStart yX1_oldStart, .code yX1_oldStart cX1_oldStart 2 (some .int), .fieldLink RX1 9 "RelocatingPatch$Blocks" "oldStarts" "[I"] ++ wsX10)
def wsX1_covers : List Cond := .code yX1_covers cX1_covers 4 (some .boolean) :: ([.methodLink RX1 29 yX1_newStart, .instanceMethod yX1_newStart, .selects RX1 yX1_newStart yX1_newStart, .initialized RX1, .code yX1_newStart cX1_newStart 2 (some .int), .fieldLink RX1 15 "RelocatingPatch$Blocks" "newStarts" "[I", .methodLink RX1 25 yX1_has, .instanceMethod yX1_has, .selects RX1 yX1_has yX1_has, .code yX1_has cX1_has 2 (some .boolean), .fieldLink RX1 21 "RelocatingPatch$Blocks" "size" "I", .methodLink RX1 36 yX1_length, .instanceMethod yX1_length, .selects RX1 yX1_length yX1_length, .code yX1_length cX1_length 2 (some .int), .fieldLink RX1 18 "RelocatingPatch$Blocks" "lengths" "[I"] ++ wsX10)
def wsX1_withNewIndex : List Cond := .code yX1_withNewIndex cX1_withNewIndex 3 (some .int) :: ([.fieldLink RX1 21 "RelocatingPatch$Blocks" "size" "I", .methodLink RX1 39 yX1_covers, .instanceMethod yX1_covers, .selects RX1 yX1_covers yX1_covers, .initialized RX1, .code yX1_covers cX1_covers 4 (some .boolean), .methodLink RX1 29 yX1_newStart, .instanceMethod yX1_newStart, .selects RX1 yX1_newStart yX1_newStart, .code yX1_newStart cX1_newStart 2 (some .int), .fieldLink RX1 15 "RelocatingPatch$Blocks" "newStarts" "[I", .methodLink RX1 25 yX1_has, .instanceMethod yX1_has, .selects RX1 yX1_has yX1_has, .code yX1_has cX1_has 2 (some .boolean), .methodLink RX1 36 yX1_length, .instanceMethod yX1_length, .selects RX1 yX1_length yX1_length, .code yX1_length cX1_length 2 (some .int), .fieldLink RX1 18 "RelocatingPatch$Blocks" "lengths" "[I"] ++ wsX10)
def wsX1_moved : List Cond := .code yX1_moved cX1_moved 5 (some .int) :: ([.fieldLink RX1 21 "RelocatingPatch$Blocks" "size" "I", .methodLink RX1 33 yX1_oldStart, .instanceMethod yX1_oldStart, .selects RX1 yX1_oldStart yX1_oldStart, .initialized RX1, .code yX1_oldStart cX1_oldStart 2 (some .int), .fieldLink RX1 9 "RelocatingPatch$Blocks" "oldStarts" "[I", .methodLink RX1 25 yX1_has, .instanceMethod yX1_has, .selects RX1 yX1_has yX1_has, .code yX1_has cX1_has 2 (some .boolean), .methodLink RX1 29 yX1_newStart, .instanceMethod yX1_newStart, .selects RX1 yX1_newStart yX1_newStart, .code yX1_newStart cX1_newStart 2 (some .int), .fieldLink RX1 15 "RelocatingPatch$Blocks" "newStarts" "[I"] ++ wsX10)
def wsX1_mustGoBefore : List Cond := .code yX1_mustGoBefore cX1_mustGoBefore 3 (some .boolean) :: ([.methodLink RX1 29 yX1_newStart, .instanceMethod yX1_newStart, .selects RX1 yX1_newStart yX1_newStart, .initialized RX1, .code yX1_newStart cX1_newStart 2 (some .int), .fieldLink RX1 15 "RelocatingPatch$Blocks" "newStarts" "[I", .methodLink RX1 25 yX1_has, .instanceMethod yX1_has, .selects RX1 yX1_has yX1_has, .code yX1_has cX1_has 2 (some .boolean), .fieldLink RX1 21 "RelocatingPatch$Blocks" "size" "I", .methodLink RX1 33 yX1_oldStart, .instanceMethod yX1_oldStart, .selects RX1 yX1_oldStart yX1_oldStart, .code yX1_oldStart cX1_oldStart 2 (some .int), .fieldLink RX1 9 "RelocatingPatch$Blocks" "oldStarts" "[I", .methodLink RX1 36 yX1_length, .instanceMethod yX1_length, .selects RX1 yX1_length yX1_length, .code yX1_length cX1_length 2 (some .int), .fieldLink RX1 18 "RelocatingPatch$Blocks" "lengths" "[I"] ++ wsX10)
def wsX2_init : List Cond := .code yX2_init cX2_init 1 none :: ([.methodLink RX2 3 objectInit, .instanceMethod objectInit, .code objectInit ⟨#[0xb1]⟩ 1 none, .arrayClass .int, .fieldLink RX2 9 "RelocatingPatch$CopyOrder" "order" "[I", .arrayClass .boolean, .fieldLink RX2 15 "RelocatingPatch$CopyOrder" "waiting" "[Z", .fieldLink RX2 19 "RelocatingPatch$CopyOrder" "dropped" "[Z", .fieldLink RX2 22 "RelocatingPatch$CopyOrder" "steps" "I"] ++ wsX20)
def wsX2_steps : List Cond := .code yX2_steps cX2_steps 1 (some .int) :: ([.fieldLink RX2 22 "RelocatingPatch$CopyOrder" "steps" "I"] ++ wsX20)
def wsX2_hasStep : List Cond := .code yX2_hasStep cX2_hasStep 2 (some .boolean) :: ([.fieldLink RX2 22 "RelocatingPatch$CopyOrder" "steps" "I"] ++ wsX20)
def wsX2_blockOfStep : List Cond := .code yX2_blockOfStep cX2_blockOfStep 2 (some .int) :: ([.fieldLink RX2 9 "RelocatingPatch$CopyOrder" "order" "[I", .methodLink RX2 26 yX2_hasStep, .instanceMethod yX2_hasStep, .selects RX2 yX2_hasStep yX2_hasStep, .initialized RX2, .code yX2_hasStep cX2_hasStep 2 (some .boolean), .fieldLink RX2 22 "RelocatingPatch$CopyOrder" "steps" "I"] ++ wsX20)
def wsX2_drops : List Cond := .code yX2_drops cX2_drops 2 (some .boolean) :: ([.fieldLink RX2 19 "RelocatingPatch$CopyOrder" "dropped" "[Z"] ++ wsX20)
def wsX2_origin_r1 : List Cond := [Cond.methodLink RX2 30 yX2_blockOfStep, Cond.instanceMethod yX2_blockOfStep, Cond.selects RX2 yX2_blockOfStep yX2_blockOfStep, Cond.initialized RX2, Cond.code yX2_blockOfStep cX2_blockOfStep 2 (some .int), Cond.fieldLink RX2 9 "RelocatingPatch$CopyOrder" "order" "[I", Cond.methodLink RX2 26 yX2_hasStep, Cond.instanceMethod yX2_hasStep, Cond.selects RX2 yX2_hasStep yX2_hasStep, Cond.code yX2_hasStep cX2_hasStep 2 (some .boolean), Cond.fieldLink RX2 22 "RelocatingPatch$CopyOrder" "steps" "I", Cond.methodLink RX2 34 yX1_covers, Cond.instanceMethod yX1_covers, Cond.selects RX1 yX1_covers yX1_covers, Cond.initialized RX1, Cond.code yX1_covers cX1_covers 4 (some .boolean), Cond.methodLink RX1 29 yX1_newStart, Cond.instanceMethod yX1_newStart, Cond.selects RX1 yX1_newStart yX1_newStart, Cond.code yX1_newStart cX1_newStart 2 (some .int), Cond.fieldLink RX1 15 "RelocatingPatch$Blocks" "newStarts" "[I", Cond.methodLink RX1 25 yX1_has, Cond.instanceMethod yX1_has, Cond.selects RX1 yX1_has yX1_has]
def wsX2_origin_r2 : List Cond := [Cond.code yX1_has cX1_has 2 (some .boolean), Cond.fieldLink RX1 21 "RelocatingPatch$Blocks" "size" "I", Cond.methodLink RX1 36 yX1_length, Cond.instanceMethod yX1_length, Cond.selects RX1 yX1_length yX1_length, Cond.code yX1_length cX1_length 2 (some .int), Cond.fieldLink RX1 18 "RelocatingPatch$Blocks" "lengths" "[I", Cond.methodLink RX2 40 yX1_oldIndex, Cond.instanceMethod yX1_oldIndex, Cond.selects RX1 yX1_oldIndex yX1_oldIndex, Cond.code yX1_oldIndex cX1_oldIndex 3 (some .int), Cond.methodLink RX1 33 yX1_oldStart, Cond.instanceMethod yX1_oldStart, Cond.selects RX1 yX1_oldStart yX1_oldStart, Cond.code yX1_oldStart cX1_oldStart 2 (some .int), Cond.fieldLink RX1 9 "RelocatingPatch$Blocks" "oldStarts" "[I"]
def wsX2_origin : List Cond := .code yX2_origin cX2_origin 7 (some .int) :: ((wsX2_origin_r1 ++ wsX2_origin_r2) ++ wsX20 ++ wsX10)
def wsX2_waits : List Cond := .code yX2_waits cX2_waits 2 (some .boolean) :: ([.fieldLink RX2 15 "RelocatingPatch$CopyOrder" "waiting" "[Z"] ++ wsX20)
def wsX2_isReady_r1 : List Cond := [Cond.methodLink RX2 47 yX1_size, Cond.instanceMethod yX1_size, Cond.selects RX1 yX1_size yX1_size, Cond.initialized RX1, Cond.code yX1_size cX1_size 1 (some .int), Cond.fieldLink RX1 21 "RelocatingPatch$Blocks" "size" "I", Cond.methodLink RX2 65 yX2_waits, Cond.instanceMethod yX2_waits, Cond.selects RX2 yX2_waits yX2_waits, Cond.initialized RX2, Cond.code yX2_waits cX2_waits 2 (some .boolean), Cond.fieldLink RX2 15 "RelocatingPatch$CopyOrder" "waiting" "[Z", Cond.methodLink RX2 72 yX1_mustGoBefore, Cond.instanceMethod yX1_mustGoBefore, Cond.selects RX1 yX1_mustGoBefore yX1_mustGoBefore, Cond.code yX1_mustGoBefore cX1_mustGoBefore 3 (some .boolean), Cond.methodLink RX1 29 yX1_newStart, Cond.instanceMethod yX1_newStart, Cond.selects RX1 yX1_newStart yX1_newStart, Cond.code yX1_newStart cX1_newStart 2 (some .int), Cond.fieldLink RX1 15 "RelocatingPatch$Blocks" "newStarts" "[I", Cond.methodLink RX1 25 yX1_has, Cond.instanceMethod yX1_has, Cond.selects RX1 yX1_has yX1_has]
def wsX2_isReady_r2 : List Cond := [Cond.code yX1_has cX1_has 2 (some .boolean), Cond.methodLink RX1 33 yX1_oldStart, Cond.instanceMethod yX1_oldStart, Cond.selects RX1 yX1_oldStart yX1_oldStart, Cond.code yX1_oldStart cX1_oldStart 2 (some .int), Cond.fieldLink RX1 9 "RelocatingPatch$Blocks" "oldStarts" "[I", Cond.methodLink RX1 36 yX1_length, Cond.instanceMethod yX1_length, Cond.selects RX1 yX1_length yX1_length, Cond.code yX1_length cX1_length 2 (some .int), Cond.fieldLink RX1 18 "RelocatingPatch$Blocks" "lengths" "[I"]
def wsX2_isReady : List Cond := .code yX2_isReady cX2_isReady 4 (some .boolean) :: ((wsX2_isReady_r1 ++ wsX2_isReady_r2) ++ wsX10 ++ wsX20)
def wsX2_firstReady_r1 : List Cond := [Cond.methodLink RX2 47 yX1_size, Cond.instanceMethod yX1_size, Cond.selects RX1 yX1_size yX1_size, Cond.initialized RX1, Cond.code yX1_size cX1_size 1 (some .int), Cond.fieldLink RX1 21 "RelocatingPatch$Blocks" "size" "I", Cond.methodLink RX2 65 yX2_waits, Cond.instanceMethod yX2_waits, Cond.selects RX2 yX2_waits yX2_waits, Cond.initialized RX2, Cond.code yX2_waits cX2_waits 2 (some .boolean), Cond.fieldLink RX2 15 "RelocatingPatch$CopyOrder" "waiting" "[Z", Cond.methodLink RX2 68 yX2_isReady, Cond.instanceMethod yX2_isReady, Cond.selects RX2 yX2_isReady yX2_isReady, Cond.code yX2_isReady cX2_isReady 4 (some .boolean), Cond.methodLink RX2 72 yX1_mustGoBefore, Cond.instanceMethod yX1_mustGoBefore, Cond.selects RX1 yX1_mustGoBefore yX1_mustGoBefore, Cond.code yX1_mustGoBefore cX1_mustGoBefore 3 (some .boolean), Cond.methodLink RX1 29 yX1_newStart, Cond.instanceMethod yX1_newStart, Cond.selects RX1 yX1_newStart yX1_newStart, Cond.code yX1_newStart cX1_newStart 2 (some .int)]
def wsX2_firstReady_r2 : List Cond := [Cond.fieldLink RX1 15 "RelocatingPatch$Blocks" "newStarts" "[I", Cond.methodLink RX1 25 yX1_has, Cond.instanceMethod yX1_has, Cond.selects RX1 yX1_has yX1_has, Cond.code yX1_has cX1_has 2 (some .boolean), Cond.methodLink RX1 33 yX1_oldStart, Cond.instanceMethod yX1_oldStart, Cond.selects RX1 yX1_oldStart yX1_oldStart, Cond.code yX1_oldStart cX1_oldStart 2 (some .int), Cond.fieldLink RX1 9 "RelocatingPatch$Blocks" "oldStarts" "[I", Cond.methodLink RX1 36 yX1_length, Cond.instanceMethod yX1_length, Cond.selects RX1 yX1_length yX1_length, Cond.code yX1_length cX1_length 2 (some .int), Cond.fieldLink RX1 18 "RelocatingPatch$Blocks" "lengths" "[I"]
def wsX2_firstReady : List Cond := .code yX2_firstReady cX2_firstReady 3 (some .int) :: ((wsX2_firstReady_r1 ++ wsX2_firstReady_r2) ++ wsX10 ++ wsX20)
def wsX2_copy : List Cond := .code yX2_copy cX2_copy 2 none :: ([.fieldLink RX2 22 "RelocatingPatch$CopyOrder" "steps" "I", .fieldLink RX2 15 "RelocatingPatch$CopyOrder" "waiting" "[Z", .fieldLink RX2 9 "RelocatingPatch$CopyOrder" "order" "[I", .methodLink RX2 65 yX2_waits, .instanceMethod yX2_waits, .selects RX2 yX2_waits yX2_waits, .initialized RX2, .code yX2_waits cX2_waits 2 (some .boolean)] ++ wsX20)
def wsX2_shortestWaiting : List Cond := .code yX2_shortestWaiting cX2_shortestWaiting 4 (some .int) :: ([.methodLink RX2 47 yX1_size, .instanceMethod yX1_size, .selects RX1 yX1_size yX1_size, .initialized RX1, .code yX1_size cX1_size 1 (some .int), .fieldLink RX1 21 "RelocatingPatch$Blocks" "size" "I", .methodLink RX2 65 yX2_waits, .instanceMethod yX2_waits, .selects RX2 yX2_waits yX2_waits, .initialized RX2, .code yX2_waits cX2_waits 2 (some .boolean), .fieldLink RX2 15 "RelocatingPatch$CopyOrder" "waiting" "[Z", .methodLink RX2 75 yX1_length, .instanceMethod yX1_length, .selects RX1 yX1_length yX1_length, .code yX1_length cX1_length 2 (some .int), .fieldLink RX1 18 "RelocatingPatch$Blocks" "lengths" "[I", .methodLink RX1 25 yX1_has, .instanceMethod yX1_has, .selects RX1 yX1_has yX1_has, .code yX1_has cX1_has 2 (some .boolean)] ++ wsX10 ++ wsX20)
def wsX2_drop : List Cond := .code yX2_drop cX2_drop 2 none :: ([.fieldLink RX2 15 "RelocatingPatch$CopyOrder" "waiting" "[Z", .fieldLink RX2 19 "RelocatingPatch$CopyOrder" "dropped" "[Z", .methodLink RX2 65 yX2_waits, .instanceMethod yX2_waits, .selects RX2 yX2_waits yX2_waits, .initialized RX2, .code yX2_waits cX2_waits 2 (some .boolean)] ++ wsX20)
def wsX2_arrange_r1 : List Cond := [Cond.fieldLink RX2 22 "RelocatingPatch$CopyOrder" "steps" "I", Cond.fieldLink RX2 15 "RelocatingPatch$CopyOrder" "waiting" "[Z", Cond.fieldLink RX2 19 "RelocatingPatch$CopyOrder" "dropped" "[Z", Cond.methodLink RX2 44 yX1_has, Cond.instanceMethod yX1_has, Cond.selects RX1 yX1_has yX1_has, Cond.initialized RX1, Cond.code yX1_has cX1_has 2 (some .boolean), Cond.fieldLink RX1 21 "RelocatingPatch$Blocks" "size" "I", Cond.methodLink RX2 47 yX1_size, Cond.instanceMethod yX1_size, Cond.selects RX1 yX1_size yX1_size, Cond.code yX1_size cX1_size 1 (some .int), Cond.methodLink RX2 51 yX2_firstReady, Cond.instanceMethod yX2_firstReady, Cond.selects RX2 yX2_firstReady yX2_firstReady, Cond.initialized RX2, Cond.code yX2_firstReady cX2_firstReady 3 (some .int), Cond.methodLink RX2 65 yX2_waits, Cond.instanceMethod yX2_waits, Cond.selects RX2 yX2_waits yX2_waits, Cond.code yX2_waits cX2_waits 2 (some .boolean), Cond.methodLink RX2 68 yX2_isReady, Cond.instanceMethod yX2_isReady]
def wsX2_arrange_r2 : List Cond := [Cond.selects RX2 yX2_isReady yX2_isReady, Cond.code yX2_isReady cX2_isReady 4 (some .boolean), Cond.methodLink RX2 72 yX1_mustGoBefore, Cond.instanceMethod yX1_mustGoBefore, Cond.selects RX1 yX1_mustGoBefore yX1_mustGoBefore, Cond.code yX1_mustGoBefore cX1_mustGoBefore 3 (some .boolean), Cond.methodLink RX1 29 yX1_newStart, Cond.instanceMethod yX1_newStart, Cond.selects RX1 yX1_newStart yX1_newStart, Cond.code yX1_newStart cX1_newStart 2 (some .int), Cond.fieldLink RX1 15 "RelocatingPatch$Blocks" "newStarts" "[I", Cond.methodLink RX1 25 yX1_has, Cond.methodLink RX1 33 yX1_oldStart, Cond.instanceMethod yX1_oldStart, Cond.selects RX1 yX1_oldStart yX1_oldStart, Cond.code yX1_oldStart cX1_oldStart 2 (some .int), Cond.fieldLink RX1 9 "RelocatingPatch$Blocks" "oldStarts" "[I", Cond.methodLink RX1 36 yX1_length, Cond.instanceMethod yX1_length, Cond.selects RX1 yX1_length yX1_length, Cond.code yX1_length cX1_length 2 (some .int), Cond.fieldLink RX1 18 "RelocatingPatch$Blocks" "lengths" "[I", Cond.methodLink RX2 55 yX2_copy, Cond.instanceMethod yX2_copy]
def wsX2_arrange_r3 : List Cond := [Cond.selects RX2 yX2_copy yX2_copy, Cond.code yX2_copy cX2_copy 2 none, Cond.fieldLink RX2 9 "RelocatingPatch$CopyOrder" "order" "[I", Cond.methodLink RX2 59 yX2_shortestWaiting, Cond.instanceMethod yX2_shortestWaiting, Cond.selects RX2 yX2_shortestWaiting yX2_shortestWaiting, Cond.code yX2_shortestWaiting cX2_shortestWaiting 4 (some .int), Cond.methodLink RX2 75 yX1_length, Cond.methodLink RX2 62 yX2_drop, Cond.instanceMethod yX2_drop, Cond.selects RX2 yX2_drop yX2_drop, Cond.code yX2_drop cX2_drop 2 none]
def wsX2_arrange : List Cond := .code yX2_arrange cX2_arrange 4 none :: ((wsX2_arrange_r1 ++ (wsX2_arrange_r2 ++ wsX2_arrange_r3)) ++ wsX20 ++ wsX10)
def wsX3_init : List Cond := .code yX3_init cX3_init 1 none :: ([.methodLink RX3 3 objectInit, .instanceMethod objectInit, .code objectInit ⟨#[0xb1]⟩ 1 none, .arrayClass .int, .fieldLink RX3 9 "RelocatingPatch$Image" "values" "[I", .arrayClass .boolean, .fieldLink RX3 15 "RelocatingPatch$Image" "addresses" "[Z", .fieldLink RX3 19 "RelocatingPatch$Image" "size" "I"] ++ wsX30)
def wsX3_isFull : List Cond := .code yX3_isFull cX3_isFull 1 (some .boolean) :: ([.fieldLink RX3 19 "RelocatingPatch$Image" "size" "I"] ++ wsX30)
def wsX3_add : List Cond := .code yX3_add cX3_add 3 none :: ([.fieldLink RX3 9 "RelocatingPatch$Image" "values" "[I", .fieldLink RX3 19 "RelocatingPatch$Image" "size" "I", .fieldLink RX3 15 "RelocatingPatch$Image" "addresses" "[Z", .methodLink RX3 27 yX3_isFull, .instanceMethod yX3_isFull, .selects RX3 yX3_isFull yX3_isFull, .initialized RX3, .code yX3_isFull cX3_isFull 1 (some .boolean)] ++ wsX30)
def wsX3_replace : List Cond := .code yX3_replace cX3_replace 3 none :: ([.fieldLink RX3 9 "RelocatingPatch$Image" "values" "[I", .methodLink RX3 23 yX3_holds, .instanceMethod yX3_holds, .selects RX3 yX3_holds yX3_holds, .initialized RX3, .code yX3_holds cX3_holds 2 (some .boolean), .fieldLink RX3 19 "RelocatingPatch$Image" "size" "I"] ++ wsX30)
def wsX3_removeAll : List Cond := .code yX3_removeAll cX3_removeAll 1 none :: ([.fieldLink RX3 19 "RelocatingPatch$Image" "size" "I"] ++ wsX30)
def wsX4_init_r1 : List Cond := [Cond.methodLink RX4 1 objectInit, Cond.instanceMethod objectInit, Cond.code objectInit ⟨#[0xb1]⟩ 1 none, Cond.classLink RX4 7 RX3, Cond.instantiable RX3 3, Cond.initialized RX3, Cond.fieldLink RX4 10 "RelocatingPatch" "oldImage" "LRelocatingPatch$Image;", Cond.fieldLink RX4 16 "RelocatingPatch" "newImage" "LRelocatingPatch$Image;", Cond.classLink RX4 19 RX1, Cond.instantiable RX1 4, Cond.initialized RX1, Cond.fieldLink RX4 22 "RelocatingPatch" "blocks" "LRelocatingPatch$Blocks;", Cond.classLink RX4 26 RX0, Cond.instantiable RX0 6, Cond.initialized RX0, Cond.fieldLink RX4 29 "RelocatingPatch" "aligner" "LRelocatingPatch$Aligner;", Cond.classLink RX4 33 RX2, Cond.instantiable RX2 4, Cond.initialized RX2, Cond.fieldLink RX4 36 "RelocatingPatch" "copyOrder" "LRelocatingPatch$CopyOrder;", Cond.fieldLink RX4 40 "RelocatingPatch" "built" "Z", Cond.methodLink RX4 9 yX3_init, Cond.instanceMethod yX3_init, Cond.code yX3_init cX3_init 1 none]
def wsX4_init_r2 : List Cond := [Cond.methodLink RX3 3 objectInit, Cond.arrayClass .int, Cond.fieldLink RX3 9 "RelocatingPatch$Image" "values" "[I", Cond.arrayClass .boolean, Cond.fieldLink RX3 15 "RelocatingPatch$Image" "addresses" "[Z", Cond.fieldLink RX3 19 "RelocatingPatch$Image" "size" "I", Cond.methodLink RX4 21 yX1_init, Cond.instanceMethod yX1_init, Cond.code yX1_init cX1_init 1 none, Cond.methodLink RX1 3 objectInit, Cond.fieldLink RX1 9 "RelocatingPatch$Blocks" "oldStarts" "[I", Cond.fieldLink RX1 15 "RelocatingPatch$Blocks" "newStarts" "[I", Cond.fieldLink RX1 18 "RelocatingPatch$Blocks" "lengths" "[I", Cond.fieldLink RX1 21 "RelocatingPatch$Blocks" "size" "I", Cond.methodLink RX4 28 yX0_init, Cond.instanceMethod yX0_init, Cond.code yX0_init cX0_init 1 none, Cond.methodLink RX0 3 objectInit, Cond.fieldLink RX0 9 "RelocatingPatch$Aligner" "oldTaken" "[Z", Cond.fieldLink RX0 15 "RelocatingPatch$Aligner" "newTaken" "[Z", Cond.fieldLink RX0 18 "RelocatingPatch$Aligner" "runs" "[I", Cond.fieldLink RX0 22 "RelocatingPatch$Aligner" "bestOld" "I", Cond.fieldLink RX0 26 "RelocatingPatch$Aligner" "bestNew" "I", Cond.fieldLink RX0 29 "RelocatingPatch$Aligner" "bestLength" "I"]
def wsX4_init_r3 : List Cond := [Cond.methodLink RX4 35 yX2_init, Cond.instanceMethod yX2_init, Cond.code yX2_init cX2_init 1 none, Cond.methodLink RX2 3 objectInit, Cond.fieldLink RX2 9 "RelocatingPatch$CopyOrder" "order" "[I", Cond.fieldLink RX2 15 "RelocatingPatch$CopyOrder" "waiting" "[Z", Cond.fieldLink RX2 19 "RelocatingPatch$CopyOrder" "dropped" "[Z", Cond.fieldLink RX2 22 "RelocatingPatch$CopyOrder" "steps" "I"]
def wsX4_init : List Cond := .code yX4_init cX4_init 1 none :: ((wsX4_init_r1 ++ (wsX4_init_r2 ++ wsX4_init_r3)) ++ wsX30 ++ wsX40 ++ wsX10 ++ wsX00 ++ wsX20)
def wsX4_isValue : List Cond := .code yX4_isValue cX4_isValue 1 (some .boolean) :: ([])
def wsX4_append : List Cond := .code yX4_append cX4_append 4 (some .int) :: ([.fieldLink RX4 40 "RelocatingPatch" "built" "Z", .methodLink RX4 52 yX4_isValue, .static yX4_isValue, .initialized RX4, .code yX4_isValue cX4_isValue 1 (some .boolean), .methodLink RX4 70 yX3_isFull, .instanceMethod yX3_isFull, .selects RX3 yX3_isFull yX3_isFull, .initialized RX3, .code yX3_isFull cX3_isFull 1 (some .boolean), .fieldLink RX3 19 "RelocatingPatch$Image" "size" "I", .methodLink RX4 74 yX3_add, .instanceMethod yX3_add, .selects RX3 yX3_add yX3_add, .code yX3_add cX3_add 3 none, .fieldLink RX3 9 "RelocatingPatch$Image" "values" "[I", .fieldLink RX3 15 "RelocatingPatch$Image" "addresses" "[Z", .methodLink RX3 27 yX3_isFull, .methodLink RX4 63 yX3_size, .instanceMethod yX3_size, .selects RX3 yX3_size yX3_size, .code yX3_size cX3_size 1 (some .int)] ++ wsX40 ++ wsX30)
def wsX4_appendOld_r1 : List Cond := [Cond.fieldLink RX4 10 "RelocatingPatch" "oldImage" "LRelocatingPatch$Image;", Cond.methodLink RX4 44 yX4_append, Cond.instanceMethod yX4_append, Cond.selects RX4 yX4_append yX4_append, Cond.initialized RX4, Cond.code yX4_append cX4_append 4 (some .int), Cond.fieldLink RX4 40 "RelocatingPatch" "built" "Z", Cond.methodLink RX4 52 yX4_isValue, Cond.static yX4_isValue, Cond.code yX4_isValue cX4_isValue 1 (some .boolean), Cond.methodLink RX4 70 yX3_isFull, Cond.instanceMethod yX3_isFull, Cond.selects RX3 yX3_isFull yX3_isFull, Cond.initialized RX3, Cond.code yX3_isFull cX3_isFull 1 (some .boolean), Cond.fieldLink RX3 19 "RelocatingPatch$Image" "size" "I", Cond.methodLink RX4 74 yX3_add, Cond.instanceMethod yX3_add, Cond.selects RX3 yX3_add yX3_add, Cond.code yX3_add cX3_add 3 none, Cond.fieldLink RX3 9 "RelocatingPatch$Image" "values" "[I", Cond.fieldLink RX3 15 "RelocatingPatch$Image" "addresses" "[Z", Cond.methodLink RX3 27 yX3_isFull, Cond.methodLink RX4 63 yX3_size]
def wsX4_appendOld_r2 : List Cond := [Cond.instanceMethod yX3_size, Cond.selects RX3 yX3_size yX3_size, Cond.code yX3_size cX3_size 1 (some .int)]
def wsX4_appendOld : List Cond := .code yX4_appendOld cX4_appendOld 3 (some .int) :: ((wsX4_appendOld_r1 ++ wsX4_appendOld_r2) ++ wsX40 ++ wsX30)
def wsX4_appendNew_r1 : List Cond := [Cond.fieldLink RX4 16 "RelocatingPatch" "newImage" "LRelocatingPatch$Image;", Cond.methodLink RX4 44 yX4_append, Cond.instanceMethod yX4_append, Cond.selects RX4 yX4_append yX4_append, Cond.initialized RX4, Cond.code yX4_append cX4_append 4 (some .int), Cond.fieldLink RX4 40 "RelocatingPatch" "built" "Z", Cond.methodLink RX4 52 yX4_isValue, Cond.static yX4_isValue, Cond.code yX4_isValue cX4_isValue 1 (some .boolean), Cond.methodLink RX4 70 yX3_isFull, Cond.instanceMethod yX3_isFull, Cond.selects RX3 yX3_isFull yX3_isFull, Cond.initialized RX3, Cond.code yX3_isFull cX3_isFull 1 (some .boolean), Cond.fieldLink RX3 19 "RelocatingPatch$Image" "size" "I", Cond.methodLink RX4 74 yX3_add, Cond.instanceMethod yX3_add, Cond.selects RX3 yX3_add yX3_add, Cond.code yX3_add cX3_add 3 none, Cond.fieldLink RX3 9 "RelocatingPatch$Image" "values" "[I", Cond.fieldLink RX3 15 "RelocatingPatch$Image" "addresses" "[Z", Cond.methodLink RX3 27 yX3_isFull, Cond.methodLink RX4 63 yX3_size]
def wsX4_appendNew_r2 : List Cond := [Cond.instanceMethod yX3_size, Cond.selects RX3 yX3_size yX3_size, Cond.code yX3_size cX3_size 1 (some .int)]
def wsX4_appendNew : List Cond := .code yX4_appendNew cX4_appendNew 3 (some .int) :: ((wsX4_appendNew_r1 ++ wsX4_appendNew_r2) ++ wsX40 ++ wsX30)
def wsX4_setNew : List Cond := .code yX4_setNew cX4_setNew 4 (some .int) :: ([.fieldLink RX4 16 "RelocatingPatch" "newImage" "LRelocatingPatch$Image;", .fieldLink RX4 40 "RelocatingPatch" "built" "Z", .methodLink RX4 48 yX3_holds, .instanceMethod yX3_holds, .selects RX3 yX3_holds yX3_holds, .initialized RX3, .code yX3_holds cX3_holds 2 (some .boolean), .fieldLink RX3 19 "RelocatingPatch$Image" "size" "I", .methodLink RX4 52 yX4_isValue, .static yX4_isValue, .initialized RX4, .code yX4_isValue cX4_isValue 1 (some .boolean), .methodLink RX4 55 yX3_valueAt, .instanceMethod yX3_valueAt, .selects RX3 yX3_valueAt yX3_valueAt, .code yX3_valueAt cX3_valueAt 2 (some .int), .fieldLink RX3 9 "RelocatingPatch$Image" "values" "[I", .methodLink RX3 23 yX3_holds, .methodLink RX4 59 yX3_replace, .instanceMethod yX3_replace, .selects RX3 yX3_replace yX3_replace, .code yX3_replace cX3_replace 3 none] ++ wsX40 ++ wsX30)
def wsX4_clear : List Cond := .code yX4_clear cX4_clear 2 (some .int) :: ([.fieldLink RX4 10 "RelocatingPatch" "oldImage" "LRelocatingPatch$Image;", .fieldLink RX4 16 "RelocatingPatch" "newImage" "LRelocatingPatch$Image;", .fieldLink RX4 40 "RelocatingPatch" "built" "Z", .methodLink RX4 63 yX3_size, .instanceMethod yX3_size, .selects RX3 yX3_size yX3_size, .initialized RX3, .code yX3_size cX3_size 1 (some .int), .fieldLink RX3 19 "RelocatingPatch$Image" "size" "I", .methodLink RX4 67 yX3_removeAll, .instanceMethod yX3_removeAll, .selects RX3 yX3_removeAll yX3_removeAll, .code yX3_removeAll cX3_removeAll 1 none] ++ wsX40 ++ wsX30)
def wsX4_oldLength : List Cond := .code yX4_oldLength cX4_oldLength 1 (some .int) :: ([.fieldLink RX4 10 "RelocatingPatch" "oldImage" "LRelocatingPatch$Image;", .methodLink RX4 63 yX3_size, .instanceMethod yX3_size, .selects RX3 yX3_size yX3_size, .initialized RX3, .code yX3_size cX3_size 1 (some .int), .fieldLink RX3 19 "RelocatingPatch$Image" "size" "I"] ++ wsX40 ++ wsX30)
def wsX4_newLength : List Cond := .code yX4_newLength cX4_newLength 1 (some .int) :: ([.fieldLink RX4 16 "RelocatingPatch" "newImage" "LRelocatingPatch$Image;", .methodLink RX4 63 yX3_size, .instanceMethod yX3_size, .selects RX3 yX3_size yX3_size, .initialized RX3, .code yX3_size cX3_size 1 (some .int), .fieldLink RX3 19 "RelocatingPatch$Image" "size" "I"] ++ wsX40 ++ wsX30)
def wsX4_newValue : List Cond := .code yX4_newValue cX4_newValue 2 (some .int) :: ([.fieldLink RX4 16 "RelocatingPatch" "newImage" "LRelocatingPatch$Image;", .methodLink RX4 48 yX3_holds, .instanceMethod yX3_holds, .selects RX3 yX3_holds yX3_holds, .initialized RX3, .code yX3_holds cX3_holds 2 (some .boolean), .fieldLink RX3 19 "RelocatingPatch$Image" "size" "I", .methodLink RX4 55 yX3_valueAt, .instanceMethod yX3_valueAt, .selects RX3 yX3_valueAt yX3_valueAt, .code yX3_valueAt cX3_valueAt 2 (some .int), .fieldLink RX3 9 "RelocatingPatch$Image" "values" "[I", .methodLink RX3 23 yX3_holds] ++ wsX40 ++ wsX30)
def wsX4_build_r1 : List Cond := [Cond.fieldLink RX4 29 "RelocatingPatch" "aligner" "LRelocatingPatch$Aligner;", Cond.fieldLink RX4 10 "RelocatingPatch" "oldImage" "LRelocatingPatch$Image;", Cond.fieldLink RX4 16 "RelocatingPatch" "newImage" "LRelocatingPatch$Image;", Cond.fieldLink RX4 22 "RelocatingPatch" "blocks" "LRelocatingPatch$Blocks;", Cond.fieldLink RX4 36 "RelocatingPatch" "copyOrder" "LRelocatingPatch$CopyOrder;", Cond.fieldLink RX4 40 "RelocatingPatch" "built" "Z", Cond.methodLink RX4 78 yX0_align, Cond.instanceMethod yX0_align, Cond.selects RX0 yX0_align yX0_align, Cond.initialized RX0, Cond.code yX0_align cX0_align 6 none, Cond.fieldLink RX0 29 "RelocatingPatch$Aligner" "bestLength" "I", Cond.fieldLink RX0 22 "RelocatingPatch$Aligner" "bestOld" "I", Cond.fieldLink RX0 26 "RelocatingPatch$Aligner" "bestNew" "I", Cond.methodLink RX0 32 yX1_removeAll, Cond.instanceMethod yX1_removeAll, Cond.selects RX1 yX1_removeAll yX1_removeAll, Cond.initialized RX1, Cond.code yX1_removeAll cX1_removeAll 1 none, Cond.fieldLink RX1 21 "RelocatingPatch$Blocks" "size" "I", Cond.methodLink RX0 37 yX0_freeAllWords, Cond.instanceMethod yX0_freeAllWords, Cond.selects RX0 yX0_freeAllWords yX0_freeAllWords, Cond.code yX0_freeAllWords cX0_freeAllWords 2 none]
def wsX4_build_r2 : List Cond := [Cond.fieldLink RX0 9 "RelocatingPatch$Aligner" "oldTaken" "[Z", Cond.fieldLink RX0 15 "RelocatingPatch$Aligner" "newTaken" "[Z", Cond.methodLink RX0 40 yX0_findLongestRun, Cond.instanceMethod yX0_findLongestRun, Cond.selects RX0 yX0_findLongestRun yX0_findLongestRun, Cond.code yX0_findLongestRun cX0_findLongestRun 4 none, Cond.fieldLink RX0 18 "RelocatingPatch$Aligner" "runs" "[I", Cond.methodLink RX0 51 yX3_size, Cond.instanceMethod yX3_size, Cond.selects RX3 yX3_size yX3_size, Cond.initialized RX3, Cond.code yX3_size cX3_size 1 (some .int), Cond.fieldLink RX3 19 "RelocatingPatch$Image" "size" "I", Cond.methodLink RX0 57 yX0_extendRuns, Cond.instanceMethod yX0_extendRuns, Cond.selects RX0 yX0_extendRuns yX0_extendRuns, Cond.code yX0_extendRuns cX0_extendRuns 7 none, Cond.methodLink RX0 61 yX0_isFree, Cond.instanceMethod yX0_isFree, Cond.selects RX0 yX0_isFree yX0_isFree, Cond.code yX0_isFree cX0_isFree 3 (some .boolean), Cond.methodLink RX0 65 yX0_wordsMatch, Cond.static yX0_wordsMatch, Cond.code yX0_wordsMatch cX0_wordsMatch 5 (some .boolean)]
def wsX4_build_r3 : List Cond := [Cond.methodLink RX0 72 yX3_isAddress, Cond.instanceMethod yX3_isAddress, Cond.selects RX3 yX3_isAddress yX3_isAddress, Cond.code yX3_isAddress cX3_isAddress 2 (some .boolean), Cond.fieldLink RX3 15 "RelocatingPatch$Image" "addresses" "[Z", Cond.methodLink RX3 23 yX3_holds, Cond.instanceMethod yX3_holds, Cond.selects RX3 yX3_holds yX3_holds, Cond.code yX3_holds cX3_holds 2 (some .boolean), Cond.methodLink RX0 76 yX3_valueAt, Cond.instanceMethod yX3_valueAt, Cond.selects RX3 yX3_valueAt yX3_valueAt, Cond.code yX3_valueAt cX3_valueAt 2 (some .int), Cond.fieldLink RX3 9 "RelocatingPatch$Image" "values" "[I", Cond.methodLink RX0 69 yX0_isBetter, Cond.instanceMethod yX0_isBetter, Cond.selects RX0 yX0_isBetter yX0_isBetter, Cond.code yX0_isBetter cX0_isBetter 3 (some .boolean), Cond.methodLink RX0 44 yX0_takeLongestRun, Cond.instanceMethod yX0_takeLongestRun, Cond.selects RX0 yX0_takeLongestRun yX0_takeLongestRun, Cond.code yX0_takeLongestRun cX0_takeLongestRun 2 none, Cond.methodLink RX0 47 yX1_insert, Cond.instanceMethod yX1_insert]
def wsX4_build_r4 : List Cond := [Cond.selects RX1 yX1_insert yX1_insert, Cond.code yX1_insert cX1_insert 5 none, Cond.fieldLink RX1 15 "RelocatingPatch$Blocks" "newStarts" "[I", Cond.fieldLink RX1 9 "RelocatingPatch$Blocks" "oldStarts" "[I", Cond.fieldLink RX1 18 "RelocatingPatch$Blocks" "lengths" "[I", Cond.methodLink RX4 82 yX2_arrange, Cond.instanceMethod yX2_arrange, Cond.selects RX2 yX2_arrange yX2_arrange, Cond.initialized RX2, Cond.code yX2_arrange cX2_arrange 4 none, Cond.fieldLink RX2 22 "RelocatingPatch$CopyOrder" "steps" "I", Cond.fieldLink RX2 15 "RelocatingPatch$CopyOrder" "waiting" "[Z", Cond.fieldLink RX2 19 "RelocatingPatch$CopyOrder" "dropped" "[Z", Cond.methodLink RX2 44 yX1_has, Cond.instanceMethod yX1_has, Cond.selects RX1 yX1_has yX1_has, Cond.code yX1_has cX1_has 2 (some .boolean), Cond.methodLink RX2 47 yX1_size, Cond.instanceMethod yX1_size, Cond.selects RX1 yX1_size yX1_size, Cond.code yX1_size cX1_size 1 (some .int), Cond.methodLink RX2 51 yX2_firstReady, Cond.instanceMethod yX2_firstReady, Cond.selects RX2 yX2_firstReady yX2_firstReady]
def wsX4_build_r5 : List Cond := [Cond.code yX2_firstReady cX2_firstReady 3 (some .int), Cond.methodLink RX2 65 yX2_waits, Cond.instanceMethod yX2_waits, Cond.selects RX2 yX2_waits yX2_waits, Cond.code yX2_waits cX2_waits 2 (some .boolean), Cond.methodLink RX2 68 yX2_isReady, Cond.instanceMethod yX2_isReady, Cond.selects RX2 yX2_isReady yX2_isReady, Cond.code yX2_isReady cX2_isReady 4 (some .boolean), Cond.methodLink RX2 72 yX1_mustGoBefore, Cond.instanceMethod yX1_mustGoBefore, Cond.selects RX1 yX1_mustGoBefore yX1_mustGoBefore, Cond.code yX1_mustGoBefore cX1_mustGoBefore 3 (some .boolean), Cond.methodLink RX1 29 yX1_newStart, Cond.instanceMethod yX1_newStart, Cond.selects RX1 yX1_newStart yX1_newStart, Cond.code yX1_newStart cX1_newStart 2 (some .int), Cond.methodLink RX1 25 yX1_has, Cond.methodLink RX1 33 yX1_oldStart, Cond.instanceMethod yX1_oldStart, Cond.selects RX1 yX1_oldStart yX1_oldStart, Cond.code yX1_oldStart cX1_oldStart 2 (some .int), Cond.methodLink RX1 36 yX1_length, Cond.instanceMethod yX1_length]
def wsX4_build_r6 : List Cond := [Cond.selects RX1 yX1_length yX1_length, Cond.code yX1_length cX1_length 2 (some .int), Cond.methodLink RX2 55 yX2_copy, Cond.instanceMethod yX2_copy, Cond.selects RX2 yX2_copy yX2_copy, Cond.code yX2_copy cX2_copy 2 none, Cond.fieldLink RX2 9 "RelocatingPatch$CopyOrder" "order" "[I", Cond.methodLink RX2 59 yX2_shortestWaiting, Cond.instanceMethod yX2_shortestWaiting, Cond.selects RX2 yX2_shortestWaiting yX2_shortestWaiting, Cond.code yX2_shortestWaiting cX2_shortestWaiting 4 (some .int), Cond.methodLink RX2 75 yX1_length, Cond.methodLink RX2 62 yX2_drop, Cond.instanceMethod yX2_drop, Cond.selects RX2 yX2_drop yX2_drop, Cond.code yX2_drop cX2_drop 2 none, Cond.methodLink RX4 86 yX1_size]
def wsX4_build : List Cond := .code yX4_build cX4_build 2 (some .int) :: ((wsX4_build_r1 ++ (wsX4_build_r2 ++ (wsX4_build_r3 ++ (wsX4_build_r4 ++ (wsX4_build_r5 ++ wsX4_build_r6))))) ++ wsX40 ++ wsX00 ++ wsX10 ++ wsX30 ++ wsX20)
def wsX4_blockError : List Cond := .code yX4_blockError cX4_blockError 2 (some .int) :: ([.fieldLink RX4 40 "RelocatingPatch" "built" "Z", .fieldLink RX4 22 "RelocatingPatch" "blocks" "LRelocatingPatch$Blocks;", .methodLink RX4 105 yX1_has, .instanceMethod yX1_has, .selects RX1 yX1_has yX1_has, .initialized RX1, .code yX1_has cX1_has 2 (some .boolean), .fieldLink RX1 21 "RelocatingPatch$Blocks" "size" "I"] ++ wsX40 ++ wsX10)
def wsX4_blockOldStart : List Cond := .code yX4_blockOldStart cX4_blockOldStart 3 (some .int) :: ([.fieldLink RX4 22 "RelocatingPatch" "blocks" "LRelocatingPatch$Blocks;", .methodLink RX4 87 yX4_blockError, .instanceMethod yX4_blockError, .selects RX4 yX4_blockError yX4_blockError, .initialized RX4, .code yX4_blockError cX4_blockError 2 (some .int), .fieldLink RX4 40 "RelocatingPatch" "built" "Z", .methodLink RX4 105 yX1_has, .instanceMethod yX1_has, .selects RX1 yX1_has yX1_has, .initialized RX1, .code yX1_has cX1_has 2 (some .boolean), .fieldLink RX1 21 "RelocatingPatch$Blocks" "size" "I", .methodLink RX4 90 yX1_oldStart, .instanceMethod yX1_oldStart, .selects RX1 yX1_oldStart yX1_oldStart, .code yX1_oldStart cX1_oldStart 2 (some .int), .fieldLink RX1 9 "RelocatingPatch$Blocks" "oldStarts" "[I", .methodLink RX1 25 yX1_has] ++ wsX40 ++ wsX10)
def wsX4_blockNewStart : List Cond := .code yX4_blockNewStart cX4_blockNewStart 3 (some .int) :: ([.fieldLink RX4 22 "RelocatingPatch" "blocks" "LRelocatingPatch$Blocks;", .methodLink RX4 87 yX4_blockError, .instanceMethod yX4_blockError, .selects RX4 yX4_blockError yX4_blockError, .initialized RX4, .code yX4_blockError cX4_blockError 2 (some .int), .fieldLink RX4 40 "RelocatingPatch" "built" "Z", .methodLink RX4 105 yX1_has, .instanceMethod yX1_has, .selects RX1 yX1_has yX1_has, .initialized RX1, .code yX1_has cX1_has 2 (some .boolean), .fieldLink RX1 21 "RelocatingPatch$Blocks" "size" "I", .methodLink RX4 93 yX1_newStart, .instanceMethod yX1_newStart, .selects RX1 yX1_newStart yX1_newStart, .code yX1_newStart cX1_newStart 2 (some .int), .fieldLink RX1 15 "RelocatingPatch$Blocks" "newStarts" "[I", .methodLink RX1 25 yX1_has] ++ wsX40 ++ wsX10)
def wsX4_blockLength : List Cond := .code yX4_blockLength cX4_blockLength 3 (some .int) :: ([.fieldLink RX4 22 "RelocatingPatch" "blocks" "LRelocatingPatch$Blocks;", .methodLink RX4 87 yX4_blockError, .instanceMethod yX4_blockError, .selects RX4 yX4_blockError yX4_blockError, .initialized RX4, .code yX4_blockError cX4_blockError 2 (some .int), .fieldLink RX4 40 "RelocatingPatch" "built" "Z", .methodLink RX4 105 yX1_has, .instanceMethod yX1_has, .selects RX1 yX1_has yX1_has, .initialized RX1, .code yX1_has cX1_has 2 (some .boolean), .fieldLink RX1 21 "RelocatingPatch$Blocks" "size" "I", .methodLink RX4 96 yX1_length, .instanceMethod yX1_length, .selects RX1 yX1_length yX1_length, .code yX1_length cX1_length 2 (some .int), .fieldLink RX1 18 "RelocatingPatch$Blocks" "lengths" "[I", .methodLink RX1 25 yX1_has] ++ wsX40 ++ wsX10)
def wsX4_newWordError : List Cond := .code yX4_newWordError cX4_newWordError 2 (some .int) :: ([.fieldLink RX4 40 "RelocatingPatch" "built" "Z", .fieldLink RX4 16 "RelocatingPatch" "newImage" "LRelocatingPatch$Image;", .methodLink RX4 48 yX3_holds, .instanceMethod yX3_holds, .selects RX3 yX3_holds yX3_holds, .initialized RX3, .code yX3_holds cX3_holds 2 (some .boolean), .fieldLink RX3 19 "RelocatingPatch$Image" "size" "I"] ++ wsX40 ++ wsX30)
def wsX4_blockOf_r1 : List Cond := [Cond.fieldLink RX4 22 "RelocatingPatch" "blocks" "LRelocatingPatch$Blocks;", Cond.methodLink RX4 99 yX4_newWordError, Cond.instanceMethod yX4_newWordError, Cond.selects RX4 yX4_newWordError yX4_newWordError, Cond.initialized RX4, Cond.code yX4_newWordError cX4_newWordError 2 (some .int), Cond.fieldLink RX4 40 "RelocatingPatch" "built" "Z", Cond.fieldLink RX4 16 "RelocatingPatch" "newImage" "LRelocatingPatch$Image;", Cond.methodLink RX4 48 yX3_holds, Cond.instanceMethod yX3_holds, Cond.selects RX3 yX3_holds yX3_holds, Cond.initialized RX3, Cond.code yX3_holds cX3_holds 2 (some .boolean), Cond.fieldLink RX3 19 "RelocatingPatch$Image" "size" "I", Cond.methodLink RX4 102 yX1_withNewIndex, Cond.instanceMethod yX1_withNewIndex, Cond.selects RX1 yX1_withNewIndex yX1_withNewIndex, Cond.initialized RX1, Cond.code yX1_withNewIndex cX1_withNewIndex 3 (some .int), Cond.fieldLink RX1 21 "RelocatingPatch$Blocks" "size" "I", Cond.methodLink RX1 39 yX1_covers, Cond.instanceMethod yX1_covers, Cond.selects RX1 yX1_covers yX1_covers, Cond.code yX1_covers cX1_covers 4 (some .boolean)]
def wsX4_blockOf_r2 : List Cond := [Cond.methodLink RX1 29 yX1_newStart, Cond.instanceMethod yX1_newStart, Cond.selects RX1 yX1_newStart yX1_newStart, Cond.code yX1_newStart cX1_newStart 2 (some .int), Cond.fieldLink RX1 15 "RelocatingPatch$Blocks" "newStarts" "[I", Cond.methodLink RX1 25 yX1_has, Cond.instanceMethod yX1_has, Cond.selects RX1 yX1_has yX1_has, Cond.code yX1_has cX1_has 2 (some .boolean), Cond.methodLink RX1 36 yX1_length, Cond.instanceMethod yX1_length, Cond.selects RX1 yX1_length yX1_length, Cond.code yX1_length cX1_length 2 (some .int), Cond.fieldLink RX1 18 "RelocatingPatch$Blocks" "lengths" "[I"]
def wsX4_blockOf : List Cond := .code yX4_blockOf cX4_blockOf 4 (some .int) :: ((wsX4_blockOf_r1 ++ wsX4_blockOf_r2) ++ wsX40 ++ wsX30 ++ wsX10)
def wsX4_predictedAddress_r1 : List Cond := [Cond.fieldLink RX4 40 "RelocatingPatch" "built" "Z", Cond.fieldLink RX4 22 "RelocatingPatch" "blocks" "LRelocatingPatch$Blocks;", Cond.methodLink RX4 52 yX4_isValue, Cond.static yX4_isValue, Cond.initialized RX4, Cond.code yX4_isValue cX4_isValue 1 (some .boolean), Cond.methodLink RX4 108 yX1_moved, Cond.instanceMethod yX1_moved, Cond.selects RX1 yX1_moved yX1_moved, Cond.initialized RX1, Cond.code yX1_moved cX1_moved 5 (some .int), Cond.fieldLink RX1 21 "RelocatingPatch$Blocks" "size" "I", Cond.methodLink RX1 33 yX1_oldStart, Cond.instanceMethod yX1_oldStart, Cond.selects RX1 yX1_oldStart yX1_oldStart, Cond.code yX1_oldStart cX1_oldStart 2 (some .int), Cond.fieldLink RX1 9 "RelocatingPatch$Blocks" "oldStarts" "[I", Cond.methodLink RX1 25 yX1_has, Cond.instanceMethod yX1_has, Cond.selects RX1 yX1_has yX1_has, Cond.code yX1_has cX1_has 2 (some .boolean), Cond.methodLink RX1 29 yX1_newStart, Cond.instanceMethod yX1_newStart, Cond.selects RX1 yX1_newStart yX1_newStart]
def wsX4_predictedAddress_r2 : List Cond := [Cond.code yX1_newStart cX1_newStart 2 (some .int), Cond.fieldLink RX1 15 "RelocatingPatch$Blocks" "newStarts" "[I"]
def wsX4_predictedAddress : List Cond := .code yX4_predictedAddress cX4_predictedAddress 2 (some .int) :: ((wsX4_predictedAddress_r1 ++ wsX4_predictedAddress_r2) ++ wsX40 ++ wsX10)
def wsX4_prediction_r1 : List Cond := [Cond.fieldLink RX4 22 "RelocatingPatch" "blocks" "LRelocatingPatch$Blocks;", Cond.fieldLink RX4 10 "RelocatingPatch" "oldImage" "LRelocatingPatch$Image;", Cond.methodLink RX4 130 yX1_oldIndex, Cond.instanceMethod yX1_oldIndex, Cond.selects RX1 yX1_oldIndex yX1_oldIndex, Cond.initialized RX1, Cond.code yX1_oldIndex cX1_oldIndex 3 (some .int), Cond.methodLink RX1 29 yX1_newStart, Cond.instanceMethod yX1_newStart, Cond.selects RX1 yX1_newStart yX1_newStart, Cond.code yX1_newStart cX1_newStart 2 (some .int), Cond.fieldLink RX1 15 "RelocatingPatch$Blocks" "newStarts" "[I", Cond.methodLink RX1 25 yX1_has, Cond.instanceMethod yX1_has, Cond.selects RX1 yX1_has yX1_has, Cond.code yX1_has cX1_has 2 (some .boolean), Cond.fieldLink RX1 21 "RelocatingPatch$Blocks" "size" "I", Cond.methodLink RX1 33 yX1_oldStart, Cond.instanceMethod yX1_oldStart, Cond.selects RX1 yX1_oldStart yX1_oldStart, Cond.code yX1_oldStart cX1_oldStart 2 (some .int), Cond.fieldLink RX1 9 "RelocatingPatch$Blocks" "oldStarts" "[I", Cond.methodLink RX4 55 yX3_valueAt, Cond.instanceMethod yX3_valueAt]
def wsX4_prediction_r2 : List Cond := [Cond.selects RX3 yX3_valueAt yX3_valueAt, Cond.initialized RX3, Cond.code yX3_valueAt cX3_valueAt 2 (some .int), Cond.fieldLink RX3 9 "RelocatingPatch$Image" "values" "[I", Cond.methodLink RX3 23 yX3_holds, Cond.instanceMethod yX3_holds, Cond.selects RX3 yX3_holds yX3_holds, Cond.code yX3_holds cX3_holds 2 (some .boolean), Cond.fieldLink RX3 19 "RelocatingPatch$Image" "size" "I", Cond.methodLink RX4 133 yX3_isAddress, Cond.instanceMethod yX3_isAddress, Cond.selects RX3 yX3_isAddress yX3_isAddress, Cond.code yX3_isAddress cX3_isAddress 2 (some .boolean), Cond.fieldLink RX3 15 "RelocatingPatch$Image" "addresses" "[Z", Cond.methodLink RX4 108 yX1_moved, Cond.instanceMethod yX1_moved, Cond.selects RX1 yX1_moved yX1_moved, Cond.code yX1_moved cX1_moved 5 (some .int)]
def wsX4_prediction : List Cond := .code yX4_prediction cX4_prediction 5 (some .int) :: ((wsX4_prediction_r1 ++ wsX4_prediction_r2) ++ wsX40 ++ wsX10 ++ wsX30)
def wsX4_predictedValue_r1 : List Cond := [Cond.fieldLink RX4 22 "RelocatingPatch" "blocks" "LRelocatingPatch$Blocks;", Cond.methodLink RX4 99 yX4_newWordError, Cond.instanceMethod yX4_newWordError, Cond.selects RX4 yX4_newWordError yX4_newWordError, Cond.initialized RX4, Cond.code yX4_newWordError cX4_newWordError 2 (some .int), Cond.fieldLink RX4 40 "RelocatingPatch" "built" "Z", Cond.fieldLink RX4 16 "RelocatingPatch" "newImage" "LRelocatingPatch$Image;", Cond.methodLink RX4 48 yX3_holds, Cond.instanceMethod yX3_holds, Cond.selects RX3 yX3_holds yX3_holds, Cond.initialized RX3, Cond.code yX3_holds cX3_holds 2 (some .boolean), Cond.fieldLink RX3 19 "RelocatingPatch$Image" "size" "I", Cond.methodLink RX4 102 yX1_withNewIndex, Cond.instanceMethod yX1_withNewIndex, Cond.selects RX1 yX1_withNewIndex yX1_withNewIndex, Cond.initialized RX1, Cond.code yX1_withNewIndex cX1_withNewIndex 3 (some .int), Cond.fieldLink RX1 21 "RelocatingPatch$Blocks" "size" "I", Cond.methodLink RX1 39 yX1_covers, Cond.instanceMethod yX1_covers, Cond.selects RX1 yX1_covers yX1_covers, Cond.code yX1_covers cX1_covers 4 (some .boolean)]
def wsX4_predictedValue_r2 : List Cond := [Cond.methodLink RX1 29 yX1_newStart, Cond.instanceMethod yX1_newStart, Cond.selects RX1 yX1_newStart yX1_newStart, Cond.code yX1_newStart cX1_newStart 2 (some .int), Cond.fieldLink RX1 15 "RelocatingPatch$Blocks" "newStarts" "[I", Cond.methodLink RX1 25 yX1_has, Cond.instanceMethod yX1_has, Cond.selects RX1 yX1_has yX1_has, Cond.code yX1_has cX1_has 2 (some .boolean), Cond.methodLink RX1 36 yX1_length, Cond.instanceMethod yX1_length, Cond.selects RX1 yX1_length yX1_length, Cond.code yX1_length cX1_length 2 (some .int), Cond.fieldLink RX1 18 "RelocatingPatch$Blocks" "lengths" "[I", Cond.methodLink RX4 111 yX4_prediction, Cond.instanceMethod yX4_prediction, Cond.selects RX4 yX4_prediction yX4_prediction, Cond.code yX4_prediction cX4_prediction 5 (some .int), Cond.fieldLink RX4 10 "RelocatingPatch" "oldImage" "LRelocatingPatch$Image;", Cond.methodLink RX4 130 yX1_oldIndex, Cond.instanceMethod yX1_oldIndex, Cond.selects RX1 yX1_oldIndex yX1_oldIndex, Cond.code yX1_oldIndex cX1_oldIndex 3 (some .int), Cond.methodLink RX1 33 yX1_oldStart]
def wsX4_predictedValue_r3 : List Cond := [Cond.instanceMethod yX1_oldStart, Cond.selects RX1 yX1_oldStart yX1_oldStart, Cond.code yX1_oldStart cX1_oldStart 2 (some .int), Cond.fieldLink RX1 9 "RelocatingPatch$Blocks" "oldStarts" "[I", Cond.methodLink RX4 55 yX3_valueAt, Cond.instanceMethod yX3_valueAt, Cond.selects RX3 yX3_valueAt yX3_valueAt, Cond.code yX3_valueAt cX3_valueAt 2 (some .int), Cond.fieldLink RX3 9 "RelocatingPatch$Image" "values" "[I", Cond.methodLink RX3 23 yX3_holds, Cond.methodLink RX4 133 yX3_isAddress, Cond.instanceMethod yX3_isAddress, Cond.selects RX3 yX3_isAddress yX3_isAddress, Cond.code yX3_isAddress cX3_isAddress 2 (some .boolean), Cond.fieldLink RX3 15 "RelocatingPatch$Image" "addresses" "[Z", Cond.methodLink RX4 108 yX1_moved, Cond.instanceMethod yX1_moved, Cond.selects RX1 yX1_moved yX1_moved, Cond.code yX1_moved cX1_moved 5 (some .int)]
def wsX4_predictedValue : List Cond := .code yX4_predictedValue cX4_predictedValue 4 (some .int) :: ((wsX4_predictedValue_r1 ++ (wsX4_predictedValue_r2 ++ wsX4_predictedValue_r3)) ++ wsX40 ++ wsX30 ++ wsX10)
def wsX4_needsCorrection_r1 : List Cond := [Cond.fieldLink RX4 22 "RelocatingPatch" "blocks" "LRelocatingPatch$Blocks;", Cond.fieldLink RX4 16 "RelocatingPatch" "newImage" "LRelocatingPatch$Image;", Cond.methodLink RX4 102 yX1_withNewIndex, Cond.instanceMethod yX1_withNewIndex, Cond.selects RX1 yX1_withNewIndex yX1_withNewIndex, Cond.initialized RX1, Cond.code yX1_withNewIndex cX1_withNewIndex 3 (some .int), Cond.fieldLink RX1 21 "RelocatingPatch$Blocks" "size" "I", Cond.methodLink RX1 39 yX1_covers, Cond.instanceMethod yX1_covers, Cond.selects RX1 yX1_covers yX1_covers, Cond.code yX1_covers cX1_covers 4 (some .boolean), Cond.methodLink RX1 29 yX1_newStart, Cond.instanceMethod yX1_newStart, Cond.selects RX1 yX1_newStart yX1_newStart, Cond.code yX1_newStart cX1_newStart 2 (some .int), Cond.fieldLink RX1 15 "RelocatingPatch$Blocks" "newStarts" "[I", Cond.methodLink RX1 25 yX1_has, Cond.instanceMethod yX1_has, Cond.selects RX1 yX1_has yX1_has, Cond.code yX1_has cX1_has 2 (some .boolean), Cond.methodLink RX1 36 yX1_length, Cond.instanceMethod yX1_length, Cond.selects RX1 yX1_length yX1_length]
def wsX4_needsCorrection_r2 : List Cond := [Cond.code yX1_length cX1_length 2 (some .int), Cond.fieldLink RX1 18 "RelocatingPatch$Blocks" "lengths" "[I", Cond.methodLink RX4 111 yX4_prediction, Cond.instanceMethod yX4_prediction, Cond.selects RX4 yX4_prediction yX4_prediction, Cond.initialized RX4, Cond.code yX4_prediction cX4_prediction 5 (some .int), Cond.fieldLink RX4 10 "RelocatingPatch" "oldImage" "LRelocatingPatch$Image;", Cond.methodLink RX4 130 yX1_oldIndex, Cond.instanceMethod yX1_oldIndex, Cond.selects RX1 yX1_oldIndex yX1_oldIndex, Cond.code yX1_oldIndex cX1_oldIndex 3 (some .int), Cond.methodLink RX1 33 yX1_oldStart, Cond.instanceMethod yX1_oldStart, Cond.selects RX1 yX1_oldStart yX1_oldStart, Cond.code yX1_oldStart cX1_oldStart 2 (some .int), Cond.fieldLink RX1 9 "RelocatingPatch$Blocks" "oldStarts" "[I", Cond.methodLink RX4 55 yX3_valueAt, Cond.instanceMethod yX3_valueAt, Cond.selects RX3 yX3_valueAt yX3_valueAt, Cond.initialized RX3, Cond.code yX3_valueAt cX3_valueAt 2 (some .int), Cond.fieldLink RX3 9 "RelocatingPatch$Image" "values" "[I", Cond.methodLink RX3 23 yX3_holds]
def wsX4_needsCorrection_r3 : List Cond := [Cond.instanceMethod yX3_holds, Cond.selects RX3 yX3_holds yX3_holds, Cond.code yX3_holds cX3_holds 2 (some .boolean), Cond.fieldLink RX3 19 "RelocatingPatch$Image" "size" "I", Cond.methodLink RX4 133 yX3_isAddress, Cond.instanceMethod yX3_isAddress, Cond.selects RX3 yX3_isAddress yX3_isAddress, Cond.code yX3_isAddress cX3_isAddress 2 (some .boolean), Cond.fieldLink RX3 15 "RelocatingPatch$Image" "addresses" "[Z", Cond.methodLink RX4 108 yX1_moved, Cond.instanceMethod yX1_moved, Cond.selects RX1 yX1_moved yX1_moved, Cond.code yX1_moved cX1_moved 5 (some .int)]
def wsX4_needsCorrection : List Cond := .code yX4_needsCorrection cX4_needsCorrection 3 (some .boolean) :: ((wsX4_needsCorrection_r1 ++ (wsX4_needsCorrection_r2 ++ wsX4_needsCorrection_r3)) ++ wsX40 ++ wsX10 ++ wsX30)
def wsX4_corrections_r1 : List Cond := [Cond.fieldLink RX4 16 "RelocatingPatch" "newImage" "LRelocatingPatch$Image;", Cond.methodLink RX4 63 yX3_size, Cond.instanceMethod yX3_size, Cond.selects RX3 yX3_size yX3_size, Cond.initialized RX3, Cond.code yX3_size cX3_size 1 (some .int), Cond.fieldLink RX3 19 "RelocatingPatch$Image" "size" "I", Cond.methodLink RX4 118 yX4_needsCorrection, Cond.instanceMethod yX4_needsCorrection, Cond.selects RX4 yX4_needsCorrection yX4_needsCorrection, Cond.initialized RX4, Cond.code yX4_needsCorrection cX4_needsCorrection 3 (some .boolean), Cond.fieldLink RX4 22 "RelocatingPatch" "blocks" "LRelocatingPatch$Blocks;", Cond.methodLink RX4 102 yX1_withNewIndex, Cond.instanceMethod yX1_withNewIndex, Cond.selects RX1 yX1_withNewIndex yX1_withNewIndex, Cond.initialized RX1, Cond.code yX1_withNewIndex cX1_withNewIndex 3 (some .int), Cond.fieldLink RX1 21 "RelocatingPatch$Blocks" "size" "I", Cond.methodLink RX1 39 yX1_covers, Cond.instanceMethod yX1_covers, Cond.selects RX1 yX1_covers yX1_covers, Cond.code yX1_covers cX1_covers 4 (some .boolean), Cond.methodLink RX1 29 yX1_newStart]
def wsX4_corrections_r2 : List Cond := [Cond.instanceMethod yX1_newStart, Cond.selects RX1 yX1_newStart yX1_newStart, Cond.code yX1_newStart cX1_newStart 2 (some .int), Cond.fieldLink RX1 15 "RelocatingPatch$Blocks" "newStarts" "[I", Cond.methodLink RX1 25 yX1_has, Cond.instanceMethod yX1_has, Cond.selects RX1 yX1_has yX1_has, Cond.code yX1_has cX1_has 2 (some .boolean), Cond.methodLink RX1 36 yX1_length, Cond.instanceMethod yX1_length, Cond.selects RX1 yX1_length yX1_length, Cond.code yX1_length cX1_length 2 (some .int), Cond.fieldLink RX1 18 "RelocatingPatch$Blocks" "lengths" "[I", Cond.methodLink RX4 111 yX4_prediction, Cond.instanceMethod yX4_prediction, Cond.selects RX4 yX4_prediction yX4_prediction, Cond.code yX4_prediction cX4_prediction 5 (some .int), Cond.fieldLink RX4 10 "RelocatingPatch" "oldImage" "LRelocatingPatch$Image;", Cond.methodLink RX4 130 yX1_oldIndex, Cond.instanceMethod yX1_oldIndex, Cond.selects RX1 yX1_oldIndex yX1_oldIndex, Cond.code yX1_oldIndex cX1_oldIndex 3 (some .int), Cond.methodLink RX1 33 yX1_oldStart, Cond.instanceMethod yX1_oldStart]
def wsX4_corrections_r3 : List Cond := [Cond.selects RX1 yX1_oldStart yX1_oldStart, Cond.code yX1_oldStart cX1_oldStart 2 (some .int), Cond.fieldLink RX1 9 "RelocatingPatch$Blocks" "oldStarts" "[I", Cond.methodLink RX4 55 yX3_valueAt, Cond.instanceMethod yX3_valueAt, Cond.selects RX3 yX3_valueAt yX3_valueAt, Cond.code yX3_valueAt cX3_valueAt 2 (some .int), Cond.fieldLink RX3 9 "RelocatingPatch$Image" "values" "[I", Cond.methodLink RX3 23 yX3_holds, Cond.instanceMethod yX3_holds, Cond.selects RX3 yX3_holds yX3_holds, Cond.code yX3_holds cX3_holds 2 (some .boolean), Cond.methodLink RX4 133 yX3_isAddress, Cond.instanceMethod yX3_isAddress, Cond.selects RX3 yX3_isAddress yX3_isAddress, Cond.code yX3_isAddress cX3_isAddress 2 (some .boolean), Cond.fieldLink RX3 15 "RelocatingPatch$Image" "addresses" "[Z", Cond.methodLink RX4 108 yX1_moved, Cond.instanceMethod yX1_moved, Cond.selects RX1 yX1_moved yX1_moved, Cond.code yX1_moved cX1_moved 5 (some .int)]
def wsX4_corrections : List Cond := .code yX4_corrections cX4_corrections 3 (some .int) :: ((wsX4_corrections_r1 ++ (wsX4_corrections_r2 ++ wsX4_corrections_r3)) ++ wsX40 ++ wsX30 ++ wsX10)
def wsX4_correctionCount_r1 : List Cond := [Cond.fieldLink RX4 40 "RelocatingPatch" "built" "Z", Cond.methodLink RX4 115 yX4_corrections, Cond.instanceMethod yX4_corrections, Cond.selects RX4 yX4_corrections yX4_corrections, Cond.initialized RX4, Cond.code yX4_corrections cX4_corrections 3 (some .int), Cond.fieldLink RX4 16 "RelocatingPatch" "newImage" "LRelocatingPatch$Image;", Cond.methodLink RX4 63 yX3_size, Cond.instanceMethod yX3_size, Cond.selects RX3 yX3_size yX3_size, Cond.initialized RX3, Cond.code yX3_size cX3_size 1 (some .int), Cond.fieldLink RX3 19 "RelocatingPatch$Image" "size" "I", Cond.methodLink RX4 118 yX4_needsCorrection, Cond.instanceMethod yX4_needsCorrection, Cond.selects RX4 yX4_needsCorrection yX4_needsCorrection, Cond.code yX4_needsCorrection cX4_needsCorrection 3 (some .boolean), Cond.fieldLink RX4 22 "RelocatingPatch" "blocks" "LRelocatingPatch$Blocks;", Cond.methodLink RX4 102 yX1_withNewIndex, Cond.instanceMethod yX1_withNewIndex, Cond.selects RX1 yX1_withNewIndex yX1_withNewIndex, Cond.initialized RX1, Cond.code yX1_withNewIndex cX1_withNewIndex 3 (some .int), Cond.fieldLink RX1 21 "RelocatingPatch$Blocks" "size" "I"]
def wsX4_correctionCount_r2 : List Cond := [Cond.methodLink RX1 39 yX1_covers, Cond.instanceMethod yX1_covers, Cond.selects RX1 yX1_covers yX1_covers, Cond.code yX1_covers cX1_covers 4 (some .boolean), Cond.methodLink RX1 29 yX1_newStart, Cond.instanceMethod yX1_newStart, Cond.selects RX1 yX1_newStart yX1_newStart, Cond.code yX1_newStart cX1_newStart 2 (some .int), Cond.fieldLink RX1 15 "RelocatingPatch$Blocks" "newStarts" "[I", Cond.methodLink RX1 25 yX1_has, Cond.instanceMethod yX1_has, Cond.selects RX1 yX1_has yX1_has, Cond.code yX1_has cX1_has 2 (some .boolean), Cond.methodLink RX1 36 yX1_length, Cond.instanceMethod yX1_length, Cond.selects RX1 yX1_length yX1_length, Cond.code yX1_length cX1_length 2 (some .int), Cond.fieldLink RX1 18 "RelocatingPatch$Blocks" "lengths" "[I", Cond.methodLink RX4 111 yX4_prediction, Cond.instanceMethod yX4_prediction, Cond.selects RX4 yX4_prediction yX4_prediction, Cond.code yX4_prediction cX4_prediction 5 (some .int), Cond.fieldLink RX4 10 "RelocatingPatch" "oldImage" "LRelocatingPatch$Image;", Cond.methodLink RX4 130 yX1_oldIndex]
def wsX4_correctionCount_r3 : List Cond := [Cond.instanceMethod yX1_oldIndex, Cond.selects RX1 yX1_oldIndex yX1_oldIndex, Cond.code yX1_oldIndex cX1_oldIndex 3 (some .int), Cond.methodLink RX1 33 yX1_oldStart, Cond.instanceMethod yX1_oldStart, Cond.selects RX1 yX1_oldStart yX1_oldStart, Cond.code yX1_oldStart cX1_oldStart 2 (some .int), Cond.fieldLink RX1 9 "RelocatingPatch$Blocks" "oldStarts" "[I", Cond.methodLink RX4 55 yX3_valueAt, Cond.instanceMethod yX3_valueAt, Cond.selects RX3 yX3_valueAt yX3_valueAt, Cond.code yX3_valueAt cX3_valueAt 2 (some .int), Cond.fieldLink RX3 9 "RelocatingPatch$Image" "values" "[I", Cond.methodLink RX3 23 yX3_holds, Cond.instanceMethod yX3_holds, Cond.selects RX3 yX3_holds yX3_holds, Cond.code yX3_holds cX3_holds 2 (some .boolean), Cond.methodLink RX4 133 yX3_isAddress, Cond.instanceMethod yX3_isAddress, Cond.selects RX3 yX3_isAddress yX3_isAddress, Cond.code yX3_isAddress cX3_isAddress 2 (some .boolean), Cond.fieldLink RX3 15 "RelocatingPatch$Image" "addresses" "[Z", Cond.methodLink RX4 108 yX1_moved, Cond.instanceMethod yX1_moved]
def wsX4_correctionCount_r4 : List Cond := [Cond.selects RX1 yX1_moved yX1_moved, Cond.code yX1_moved cX1_moved 5 (some .int)]
def wsX4_correctionCount : List Cond := .code yX4_correctionCount cX4_correctionCount 1 (some .int) :: ((wsX4_correctionCount_r1 ++ (wsX4_correctionCount_r2 ++ (wsX4_correctionCount_r3 ++ wsX4_correctionCount_r4))) ++ wsX40 ++ wsX30 ++ wsX10)
def wsX4_correctionIndex_r1 : List Cond := [Cond.fieldLink RX4 40 "RelocatingPatch" "built" "Z", Cond.fieldLink RX4 16 "RelocatingPatch" "newImage" "LRelocatingPatch$Image;", Cond.methodLink RX4 63 yX3_size, Cond.instanceMethod yX3_size, Cond.selects RX3 yX3_size yX3_size, Cond.initialized RX3, Cond.code yX3_size cX3_size 1 (some .int), Cond.fieldLink RX3 19 "RelocatingPatch$Image" "size" "I", Cond.methodLink RX4 118 yX4_needsCorrection, Cond.instanceMethod yX4_needsCorrection, Cond.selects RX4 yX4_needsCorrection yX4_needsCorrection, Cond.initialized RX4, Cond.code yX4_needsCorrection cX4_needsCorrection 3 (some .boolean), Cond.fieldLink RX4 22 "RelocatingPatch" "blocks" "LRelocatingPatch$Blocks;", Cond.methodLink RX4 102 yX1_withNewIndex, Cond.instanceMethod yX1_withNewIndex, Cond.selects RX1 yX1_withNewIndex yX1_withNewIndex, Cond.initialized RX1, Cond.code yX1_withNewIndex cX1_withNewIndex 3 (some .int), Cond.fieldLink RX1 21 "RelocatingPatch$Blocks" "size" "I", Cond.methodLink RX1 39 yX1_covers, Cond.instanceMethod yX1_covers, Cond.selects RX1 yX1_covers yX1_covers, Cond.code yX1_covers cX1_covers 4 (some .boolean)]
def wsX4_correctionIndex_r2 : List Cond := [Cond.methodLink RX1 29 yX1_newStart, Cond.instanceMethod yX1_newStart, Cond.selects RX1 yX1_newStart yX1_newStart, Cond.code yX1_newStart cX1_newStart 2 (some .int), Cond.fieldLink RX1 15 "RelocatingPatch$Blocks" "newStarts" "[I", Cond.methodLink RX1 25 yX1_has, Cond.instanceMethod yX1_has, Cond.selects RX1 yX1_has yX1_has, Cond.code yX1_has cX1_has 2 (some .boolean), Cond.methodLink RX1 36 yX1_length, Cond.instanceMethod yX1_length, Cond.selects RX1 yX1_length yX1_length, Cond.code yX1_length cX1_length 2 (some .int), Cond.fieldLink RX1 18 "RelocatingPatch$Blocks" "lengths" "[I", Cond.methodLink RX4 111 yX4_prediction, Cond.instanceMethod yX4_prediction, Cond.selects RX4 yX4_prediction yX4_prediction, Cond.code yX4_prediction cX4_prediction 5 (some .int), Cond.fieldLink RX4 10 "RelocatingPatch" "oldImage" "LRelocatingPatch$Image;", Cond.methodLink RX4 130 yX1_oldIndex, Cond.instanceMethod yX1_oldIndex, Cond.selects RX1 yX1_oldIndex yX1_oldIndex, Cond.code yX1_oldIndex cX1_oldIndex 3 (some .int), Cond.methodLink RX1 33 yX1_oldStart]
def wsX4_correctionIndex_r3 : List Cond := [Cond.instanceMethod yX1_oldStart, Cond.selects RX1 yX1_oldStart yX1_oldStart, Cond.code yX1_oldStart cX1_oldStart 2 (some .int), Cond.fieldLink RX1 9 "RelocatingPatch$Blocks" "oldStarts" "[I", Cond.methodLink RX4 55 yX3_valueAt, Cond.instanceMethod yX3_valueAt, Cond.selects RX3 yX3_valueAt yX3_valueAt, Cond.code yX3_valueAt cX3_valueAt 2 (some .int), Cond.fieldLink RX3 9 "RelocatingPatch$Image" "values" "[I", Cond.methodLink RX3 23 yX3_holds, Cond.instanceMethod yX3_holds, Cond.selects RX3 yX3_holds yX3_holds, Cond.code yX3_holds cX3_holds 2 (some .boolean), Cond.methodLink RX4 133 yX3_isAddress, Cond.instanceMethod yX3_isAddress, Cond.selects RX3 yX3_isAddress yX3_isAddress, Cond.code yX3_isAddress cX3_isAddress 2 (some .boolean), Cond.fieldLink RX3 15 "RelocatingPatch$Image" "addresses" "[Z", Cond.methodLink RX4 108 yX1_moved, Cond.instanceMethod yX1_moved, Cond.selects RX1 yX1_moved yX1_moved, Cond.code yX1_moved cX1_moved 5 (some .int)]
def wsX4_correctionIndex : List Cond := .code yX4_correctionIndex cX4_correctionIndex 4 (some .int) :: ((wsX4_correctionIndex_r1 ++ (wsX4_correctionIndex_r2 ++ wsX4_correctionIndex_r3)) ++ wsX40 ++ wsX30 ++ wsX10)
def wsX4_literals : List Cond := .code yX4_literals cX4_literals 3 (some .int) :: ([.fieldLink RX4 16 "RelocatingPatch" "newImage" "LRelocatingPatch$Image;", .fieldLink RX4 22 "RelocatingPatch" "blocks" "LRelocatingPatch$Blocks;", .methodLink RX4 63 yX3_size, .instanceMethod yX3_size, .selects RX3 yX3_size yX3_size, .initialized RX3, .code yX3_size cX3_size 1 (some .int), .fieldLink RX3 19 "RelocatingPatch$Image" "size" "I", .methodLink RX4 86 yX1_size, .instanceMethod yX1_size, .selects RX1 yX1_size yX1_size, .initialized RX1, .code yX1_size cX1_size 1 (some .int), .fieldLink RX1 21 "RelocatingPatch$Blocks" "size" "I", .methodLink RX4 96 yX1_length, .instanceMethod yX1_length, .selects RX1 yX1_length yX1_length, .code yX1_length cX1_length 2 (some .int), .fieldLink RX1 18 "RelocatingPatch$Blocks" "lengths" "[I", .methodLink RX1 25 yX1_has, .instanceMethod yX1_has, .selects RX1 yX1_has yX1_has, .code yX1_has cX1_has 2 (some .boolean)] ++ wsX40 ++ wsX30 ++ wsX10)
def wsX4_literalCount_r1 : List Cond := [Cond.fieldLink RX4 40 "RelocatingPatch" "built" "Z", Cond.methodLink RX4 121 yX4_literals, Cond.instanceMethod yX4_literals, Cond.selects RX4 yX4_literals yX4_literals, Cond.initialized RX4, Cond.code yX4_literals cX4_literals 3 (some .int), Cond.fieldLink RX4 16 "RelocatingPatch" "newImage" "LRelocatingPatch$Image;", Cond.fieldLink RX4 22 "RelocatingPatch" "blocks" "LRelocatingPatch$Blocks;", Cond.methodLink RX4 63 yX3_size, Cond.instanceMethod yX3_size, Cond.selects RX3 yX3_size yX3_size, Cond.initialized RX3, Cond.code yX3_size cX3_size 1 (some .int), Cond.fieldLink RX3 19 "RelocatingPatch$Image" "size" "I", Cond.methodLink RX4 86 yX1_size, Cond.instanceMethod yX1_size, Cond.selects RX1 yX1_size yX1_size, Cond.initialized RX1, Cond.code yX1_size cX1_size 1 (some .int), Cond.fieldLink RX1 21 "RelocatingPatch$Blocks" "size" "I", Cond.methodLink RX4 96 yX1_length, Cond.instanceMethod yX1_length, Cond.selects RX1 yX1_length yX1_length, Cond.code yX1_length cX1_length 2 (some .int)]
def wsX4_literalCount_r2 : List Cond := [Cond.fieldLink RX1 18 "RelocatingPatch$Blocks" "lengths" "[I", Cond.methodLink RX1 25 yX1_has, Cond.instanceMethod yX1_has, Cond.selects RX1 yX1_has yX1_has, Cond.code yX1_has cX1_has 2 (some .boolean)]
def wsX4_literalCount : List Cond := .code yX4_literalCount cX4_literalCount 1 (some .int) :: ((wsX4_literalCount_r1 ++ wsX4_literalCount_r2) ++ wsX40 ++ wsX30 ++ wsX10)
def wsX4_blocksAndLiteralsCost_r1 : List Cond := [Cond.fieldLink RX4 22 "RelocatingPatch" "blocks" "LRelocatingPatch$Blocks;", Cond.methodLink RX4 86 yX1_size, Cond.instanceMethod yX1_size, Cond.selects RX1 yX1_size yX1_size, Cond.initialized RX1, Cond.code yX1_size cX1_size 1 (some .int), Cond.fieldLink RX1 21 "RelocatingPatch$Blocks" "size" "I", Cond.methodLink RX4 121 yX4_literals, Cond.instanceMethod yX4_literals, Cond.selects RX4 yX4_literals yX4_literals, Cond.initialized RX4, Cond.code yX4_literals cX4_literals 3 (some .int), Cond.fieldLink RX4 16 "RelocatingPatch" "newImage" "LRelocatingPatch$Image;", Cond.methodLink RX4 63 yX3_size, Cond.instanceMethod yX3_size, Cond.selects RX3 yX3_size yX3_size, Cond.initialized RX3, Cond.code yX3_size cX3_size 1 (some .int), Cond.fieldLink RX3 19 "RelocatingPatch$Image" "size" "I", Cond.methodLink RX4 96 yX1_length, Cond.instanceMethod yX1_length, Cond.selects RX1 yX1_length yX1_length, Cond.code yX1_length cX1_length 2 (some .int), Cond.fieldLink RX1 18 "RelocatingPatch$Blocks" "lengths" "[I"]
def wsX4_blocksAndLiteralsCost_r2 : List Cond := [Cond.methodLink RX1 25 yX1_has, Cond.instanceMethod yX1_has, Cond.selects RX1 yX1_has yX1_has, Cond.code yX1_has cX1_has 2 (some .boolean)]
def wsX4_blocksAndLiteralsCost : List Cond := .code yX4_blocksAndLiteralsCost cX4_blocksAndLiteralsCost 1 (some .int) :: ((wsX4_blocksAndLiteralsCost_r1 ++ wsX4_blocksAndLiteralsCost_r2) ++ wsX40 ++ wsX10 ++ wsX30)
def wsX4_patchSize_r1 : List Cond := [Cond.fieldLink RX4 40 "RelocatingPatch" "built" "Z", Cond.methodLink RX4 124 yX4_blocksAndLiteralsCost, Cond.instanceMethod yX4_blocksAndLiteralsCost, Cond.selects RX4 yX4_blocksAndLiteralsCost yX4_blocksAndLiteralsCost, Cond.initialized RX4, Cond.code yX4_blocksAndLiteralsCost cX4_blocksAndLiteralsCost 1 (some .int), Cond.fieldLink RX4 22 "RelocatingPatch" "blocks" "LRelocatingPatch$Blocks;", Cond.methodLink RX4 86 yX1_size, Cond.instanceMethod yX1_size, Cond.selects RX1 yX1_size yX1_size, Cond.initialized RX1, Cond.code yX1_size cX1_size 1 (some .int), Cond.fieldLink RX1 21 "RelocatingPatch$Blocks" "size" "I", Cond.methodLink RX4 121 yX4_literals, Cond.instanceMethod yX4_literals, Cond.selects RX4 yX4_literals yX4_literals, Cond.code yX4_literals cX4_literals 3 (some .int), Cond.fieldLink RX4 16 "RelocatingPatch" "newImage" "LRelocatingPatch$Image;", Cond.methodLink RX4 63 yX3_size, Cond.instanceMethod yX3_size, Cond.selects RX3 yX3_size yX3_size, Cond.initialized RX3, Cond.code yX3_size cX3_size 1 (some .int), Cond.fieldLink RX3 19 "RelocatingPatch$Image" "size" "I"]
def wsX4_patchSize_r2 : List Cond := [Cond.methodLink RX4 96 yX1_length, Cond.instanceMethod yX1_length, Cond.selects RX1 yX1_length yX1_length, Cond.code yX1_length cX1_length 2 (some .int), Cond.fieldLink RX1 18 "RelocatingPatch$Blocks" "lengths" "[I", Cond.methodLink RX1 25 yX1_has, Cond.instanceMethod yX1_has, Cond.selects RX1 yX1_has yX1_has, Cond.code yX1_has cX1_has 2 (some .boolean), Cond.methodLink RX4 115 yX4_corrections, Cond.instanceMethod yX4_corrections, Cond.selects RX4 yX4_corrections yX4_corrections, Cond.code yX4_corrections cX4_corrections 3 (some .int), Cond.methodLink RX4 118 yX4_needsCorrection, Cond.instanceMethod yX4_needsCorrection, Cond.selects RX4 yX4_needsCorrection yX4_needsCorrection, Cond.code yX4_needsCorrection cX4_needsCorrection 3 (some .boolean), Cond.methodLink RX4 102 yX1_withNewIndex, Cond.instanceMethod yX1_withNewIndex, Cond.selects RX1 yX1_withNewIndex yX1_withNewIndex, Cond.code yX1_withNewIndex cX1_withNewIndex 3 (some .int), Cond.methodLink RX1 39 yX1_covers, Cond.instanceMethod yX1_covers, Cond.selects RX1 yX1_covers yX1_covers]
def wsX4_patchSize_r3 : List Cond := [Cond.code yX1_covers cX1_covers 4 (some .boolean), Cond.methodLink RX1 29 yX1_newStart, Cond.instanceMethod yX1_newStart, Cond.selects RX1 yX1_newStart yX1_newStart, Cond.code yX1_newStart cX1_newStart 2 (some .int), Cond.fieldLink RX1 15 "RelocatingPatch$Blocks" "newStarts" "[I", Cond.methodLink RX1 36 yX1_length, Cond.methodLink RX4 111 yX4_prediction, Cond.instanceMethod yX4_prediction, Cond.selects RX4 yX4_prediction yX4_prediction, Cond.code yX4_prediction cX4_prediction 5 (some .int), Cond.fieldLink RX4 10 "RelocatingPatch" "oldImage" "LRelocatingPatch$Image;", Cond.methodLink RX4 130 yX1_oldIndex, Cond.instanceMethod yX1_oldIndex, Cond.selects RX1 yX1_oldIndex yX1_oldIndex, Cond.code yX1_oldIndex cX1_oldIndex 3 (some .int), Cond.methodLink RX1 33 yX1_oldStart, Cond.instanceMethod yX1_oldStart, Cond.selects RX1 yX1_oldStart yX1_oldStart, Cond.code yX1_oldStart cX1_oldStart 2 (some .int), Cond.fieldLink RX1 9 "RelocatingPatch$Blocks" "oldStarts" "[I", Cond.methodLink RX4 55 yX3_valueAt, Cond.instanceMethod yX3_valueAt, Cond.selects RX3 yX3_valueAt yX3_valueAt]
def wsX4_patchSize_r4 : List Cond := [Cond.code yX3_valueAt cX3_valueAt 2 (some .int), Cond.fieldLink RX3 9 "RelocatingPatch$Image" "values" "[I", Cond.methodLink RX3 23 yX3_holds, Cond.instanceMethod yX3_holds, Cond.selects RX3 yX3_holds yX3_holds, Cond.code yX3_holds cX3_holds 2 (some .boolean), Cond.methodLink RX4 133 yX3_isAddress, Cond.instanceMethod yX3_isAddress, Cond.selects RX3 yX3_isAddress yX3_isAddress, Cond.code yX3_isAddress cX3_isAddress 2 (some .boolean), Cond.fieldLink RX3 15 "RelocatingPatch$Image" "addresses" "[Z", Cond.methodLink RX4 108 yX1_moved, Cond.instanceMethod yX1_moved, Cond.selects RX1 yX1_moved yX1_moved, Cond.code yX1_moved cX1_moved 5 (some .int)]
def wsX4_patchSize : List Cond := .code yX4_patchSize cX4_patchSize 1 (some .int) :: ((wsX4_patchSize_r1 ++ (wsX4_patchSize_r2 ++ (wsX4_patchSize_r3 ++ wsX4_patchSize_r4))) ++ wsX40 ++ wsX10 ++ wsX30)
def wsX4_isChanged_r1 : List Cond := [Cond.fieldLink RX4 22 "RelocatingPatch" "blocks" "LRelocatingPatch$Blocks;", Cond.fieldLink RX4 10 "RelocatingPatch" "oldImage" "LRelocatingPatch$Image;", Cond.fieldLink RX4 16 "RelocatingPatch" "newImage" "LRelocatingPatch$Image;", Cond.methodLink RX4 102 yX1_withNewIndex, Cond.instanceMethod yX1_withNewIndex, Cond.selects RX1 yX1_withNewIndex yX1_withNewIndex, Cond.initialized RX1, Cond.code yX1_withNewIndex cX1_withNewIndex 3 (some .int), Cond.fieldLink RX1 21 "RelocatingPatch$Blocks" "size" "I", Cond.methodLink RX1 39 yX1_covers, Cond.instanceMethod yX1_covers, Cond.selects RX1 yX1_covers yX1_covers, Cond.code yX1_covers cX1_covers 4 (some .boolean), Cond.methodLink RX1 29 yX1_newStart, Cond.instanceMethod yX1_newStart, Cond.selects RX1 yX1_newStart yX1_newStart, Cond.code yX1_newStart cX1_newStart 2 (some .int), Cond.fieldLink RX1 15 "RelocatingPatch$Blocks" "newStarts" "[I", Cond.methodLink RX1 25 yX1_has, Cond.instanceMethod yX1_has, Cond.selects RX1 yX1_has yX1_has, Cond.code yX1_has cX1_has 2 (some .boolean), Cond.methodLink RX1 36 yX1_length, Cond.instanceMethod yX1_length]
def wsX4_isChanged_r2 : List Cond := [Cond.selects RX1 yX1_length yX1_length, Cond.code yX1_length cX1_length 2 (some .int), Cond.fieldLink RX1 18 "RelocatingPatch$Blocks" "lengths" "[I", Cond.methodLink RX4 130 yX1_oldIndex, Cond.instanceMethod yX1_oldIndex, Cond.selects RX1 yX1_oldIndex yX1_oldIndex, Cond.code yX1_oldIndex cX1_oldIndex 3 (some .int), Cond.methodLink RX1 33 yX1_oldStart, Cond.instanceMethod yX1_oldStart, Cond.selects RX1 yX1_oldStart yX1_oldStart, Cond.code yX1_oldStart cX1_oldStart 2 (some .int), Cond.fieldLink RX1 9 "RelocatingPatch$Blocks" "oldStarts" "[I", Cond.methodLink RX4 55 yX3_valueAt, Cond.instanceMethod yX3_valueAt, Cond.selects RX3 yX3_valueAt yX3_valueAt, Cond.initialized RX3, Cond.code yX3_valueAt cX3_valueAt 2 (some .int), Cond.fieldLink RX3 9 "RelocatingPatch$Image" "values" "[I", Cond.methodLink RX3 23 yX3_holds, Cond.instanceMethod yX3_holds, Cond.selects RX3 yX3_holds yX3_holds, Cond.code yX3_holds cX3_holds 2 (some .boolean), Cond.fieldLink RX3 19 "RelocatingPatch$Image" "size" "I"]
def wsX4_isChanged : List Cond := .code yX4_isChanged cX4_isChanged 3 (some .boolean) :: ((wsX4_isChanged_r1 ++ wsX4_isChanged_r2) ++ wsX40 ++ wsX10 ++ wsX30)
def wsX4_changedWords_r1 : List Cond := [Cond.fieldLink RX4 16 "RelocatingPatch" "newImage" "LRelocatingPatch$Image;", Cond.methodLink RX4 63 yX3_size, Cond.instanceMethod yX3_size, Cond.selects RX3 yX3_size yX3_size, Cond.initialized RX3, Cond.code yX3_size cX3_size 1 (some .int), Cond.fieldLink RX3 19 "RelocatingPatch$Image" "size" "I", Cond.methodLink RX4 136 yX4_isChanged, Cond.instanceMethod yX4_isChanged, Cond.selects RX4 yX4_isChanged yX4_isChanged, Cond.initialized RX4, Cond.code yX4_isChanged cX4_isChanged 3 (some .boolean), Cond.fieldLink RX4 22 "RelocatingPatch" "blocks" "LRelocatingPatch$Blocks;", Cond.fieldLink RX4 10 "RelocatingPatch" "oldImage" "LRelocatingPatch$Image;", Cond.methodLink RX4 102 yX1_withNewIndex, Cond.instanceMethod yX1_withNewIndex, Cond.selects RX1 yX1_withNewIndex yX1_withNewIndex, Cond.initialized RX1, Cond.code yX1_withNewIndex cX1_withNewIndex 3 (some .int), Cond.fieldLink RX1 21 "RelocatingPatch$Blocks" "size" "I", Cond.methodLink RX1 39 yX1_covers, Cond.instanceMethod yX1_covers, Cond.selects RX1 yX1_covers yX1_covers, Cond.code yX1_covers cX1_covers 4 (some .boolean)]
def wsX4_changedWords_r2 : List Cond := [Cond.methodLink RX1 29 yX1_newStart, Cond.instanceMethod yX1_newStart, Cond.selects RX1 yX1_newStart yX1_newStart, Cond.code yX1_newStart cX1_newStart 2 (some .int), Cond.fieldLink RX1 15 "RelocatingPatch$Blocks" "newStarts" "[I", Cond.methodLink RX1 25 yX1_has, Cond.instanceMethod yX1_has, Cond.selects RX1 yX1_has yX1_has, Cond.code yX1_has cX1_has 2 (some .boolean), Cond.methodLink RX1 36 yX1_length, Cond.instanceMethod yX1_length, Cond.selects RX1 yX1_length yX1_length, Cond.code yX1_length cX1_length 2 (some .int), Cond.fieldLink RX1 18 "RelocatingPatch$Blocks" "lengths" "[I", Cond.methodLink RX4 130 yX1_oldIndex, Cond.instanceMethod yX1_oldIndex, Cond.selects RX1 yX1_oldIndex yX1_oldIndex, Cond.code yX1_oldIndex cX1_oldIndex 3 (some .int), Cond.methodLink RX1 33 yX1_oldStart, Cond.instanceMethod yX1_oldStart, Cond.selects RX1 yX1_oldStart yX1_oldStart, Cond.code yX1_oldStart cX1_oldStart 2 (some .int), Cond.fieldLink RX1 9 "RelocatingPatch$Blocks" "oldStarts" "[I", Cond.methodLink RX4 55 yX3_valueAt]
def wsX4_changedWords_r3 : List Cond := [Cond.instanceMethod yX3_valueAt, Cond.selects RX3 yX3_valueAt yX3_valueAt, Cond.code yX3_valueAt cX3_valueAt 2 (some .int), Cond.fieldLink RX3 9 "RelocatingPatch$Image" "values" "[I", Cond.methodLink RX3 23 yX3_holds, Cond.instanceMethod yX3_holds, Cond.selects RX3 yX3_holds yX3_holds, Cond.code yX3_holds cX3_holds 2 (some .boolean)]
def wsX4_changedWords : List Cond := .code yX4_changedWords cX4_changedWords 3 (some .int) :: ((wsX4_changedWords_r1 ++ (wsX4_changedWords_r2 ++ wsX4_changedWords_r3)) ++ wsX40 ++ wsX30 ++ wsX10)
def wsX4_unpredictedSize_r1 : List Cond := [Cond.fieldLink RX4 40 "RelocatingPatch" "built" "Z", Cond.methodLink RX4 124 yX4_blocksAndLiteralsCost, Cond.instanceMethod yX4_blocksAndLiteralsCost, Cond.selects RX4 yX4_blocksAndLiteralsCost yX4_blocksAndLiteralsCost, Cond.initialized RX4, Cond.code yX4_blocksAndLiteralsCost cX4_blocksAndLiteralsCost 1 (some .int), Cond.fieldLink RX4 22 "RelocatingPatch" "blocks" "LRelocatingPatch$Blocks;", Cond.methodLink RX4 86 yX1_size, Cond.instanceMethod yX1_size, Cond.selects RX1 yX1_size yX1_size, Cond.initialized RX1, Cond.code yX1_size cX1_size 1 (some .int), Cond.fieldLink RX1 21 "RelocatingPatch$Blocks" "size" "I", Cond.methodLink RX4 121 yX4_literals, Cond.instanceMethod yX4_literals, Cond.selects RX4 yX4_literals yX4_literals, Cond.code yX4_literals cX4_literals 3 (some .int), Cond.fieldLink RX4 16 "RelocatingPatch" "newImage" "LRelocatingPatch$Image;", Cond.methodLink RX4 63 yX3_size, Cond.instanceMethod yX3_size, Cond.selects RX3 yX3_size yX3_size, Cond.initialized RX3, Cond.code yX3_size cX3_size 1 (some .int), Cond.fieldLink RX3 19 "RelocatingPatch$Image" "size" "I"]
def wsX4_unpredictedSize_r2 : List Cond := [Cond.methodLink RX4 96 yX1_length, Cond.instanceMethod yX1_length, Cond.selects RX1 yX1_length yX1_length, Cond.code yX1_length cX1_length 2 (some .int), Cond.fieldLink RX1 18 "RelocatingPatch$Blocks" "lengths" "[I", Cond.methodLink RX1 25 yX1_has, Cond.instanceMethod yX1_has, Cond.selects RX1 yX1_has yX1_has, Cond.code yX1_has cX1_has 2 (some .boolean), Cond.methodLink RX4 127 yX4_changedWords, Cond.instanceMethod yX4_changedWords, Cond.selects RX4 yX4_changedWords yX4_changedWords, Cond.code yX4_changedWords cX4_changedWords 3 (some .int), Cond.methodLink RX4 136 yX4_isChanged, Cond.instanceMethod yX4_isChanged, Cond.selects RX4 yX4_isChanged yX4_isChanged, Cond.code yX4_isChanged cX4_isChanged 3 (some .boolean), Cond.fieldLink RX4 10 "RelocatingPatch" "oldImage" "LRelocatingPatch$Image;", Cond.methodLink RX4 102 yX1_withNewIndex, Cond.instanceMethod yX1_withNewIndex, Cond.selects RX1 yX1_withNewIndex yX1_withNewIndex, Cond.code yX1_withNewIndex cX1_withNewIndex 3 (some .int), Cond.methodLink RX1 39 yX1_covers, Cond.instanceMethod yX1_covers]
def wsX4_unpredictedSize_r3 : List Cond := [Cond.selects RX1 yX1_covers yX1_covers, Cond.code yX1_covers cX1_covers 4 (some .boolean), Cond.methodLink RX1 29 yX1_newStart, Cond.instanceMethod yX1_newStart, Cond.selects RX1 yX1_newStart yX1_newStart, Cond.code yX1_newStart cX1_newStart 2 (some .int), Cond.fieldLink RX1 15 "RelocatingPatch$Blocks" "newStarts" "[I", Cond.methodLink RX1 36 yX1_length, Cond.methodLink RX4 130 yX1_oldIndex, Cond.instanceMethod yX1_oldIndex, Cond.selects RX1 yX1_oldIndex yX1_oldIndex, Cond.code yX1_oldIndex cX1_oldIndex 3 (some .int), Cond.methodLink RX1 33 yX1_oldStart, Cond.instanceMethod yX1_oldStart, Cond.selects RX1 yX1_oldStart yX1_oldStart, Cond.code yX1_oldStart cX1_oldStart 2 (some .int), Cond.fieldLink RX1 9 "RelocatingPatch$Blocks" "oldStarts" "[I", Cond.methodLink RX4 55 yX3_valueAt, Cond.instanceMethod yX3_valueAt, Cond.selects RX3 yX3_valueAt yX3_valueAt, Cond.code yX3_valueAt cX3_valueAt 2 (some .int), Cond.fieldLink RX3 9 "RelocatingPatch$Image" "values" "[I", Cond.methodLink RX3 23 yX3_holds, Cond.instanceMethod yX3_holds]
def wsX4_unpredictedSize_r4 : List Cond := [Cond.selects RX3 yX3_holds yX3_holds, Cond.code yX3_holds cX3_holds 2 (some .boolean)]
def wsX4_unpredictedSize : List Cond := .code yX4_unpredictedSize cX4_unpredictedSize 1 (some .int) :: ((wsX4_unpredictedSize_r1 ++ (wsX4_unpredictedSize_r2 ++ (wsX4_unpredictedSize_r3 ++ wsX4_unpredictedSize_r4))) ++ wsX40 ++ wsX10 ++ wsX30)
def wsX4_copyCount : List Cond := .code yX4_copyCount cX4_copyCount 1 (some .int) :: ([.fieldLink RX4 40 "RelocatingPatch" "built" "Z", .fieldLink RX4 36 "RelocatingPatch" "copyOrder" "LRelocatingPatch$CopyOrder;", .methodLink RX4 139 yX2_steps, .instanceMethod yX2_steps, .selects RX2 yX2_steps yX2_steps, .initialized RX2, .code yX2_steps cX2_steps 1 (some .int), .fieldLink RX2 22 "RelocatingPatch$CopyOrder" "steps" "I"] ++ wsX40 ++ wsX20)
def wsX4_copyStep : List Cond := .code yX4_copyStep cX4_copyStep 2 (some .int) :: ([.fieldLink RX4 40 "RelocatingPatch" "built" "Z", .fieldLink RX4 36 "RelocatingPatch" "copyOrder" "LRelocatingPatch$CopyOrder;", .methodLink RX4 142 yX2_hasStep, .instanceMethod yX2_hasStep, .selects RX2 yX2_hasStep yX2_hasStep, .initialized RX2, .code yX2_hasStep cX2_hasStep 2 (some .boolean), .fieldLink RX2 22 "RelocatingPatch$CopyOrder" "steps" "I", .methodLink RX4 145 yX2_blockOfStep, .instanceMethod yX2_blockOfStep, .selects RX2 yX2_blockOfStep yX2_blockOfStep, .code yX2_blockOfStep cX2_blockOfStep 2 (some .int), .fieldLink RX2 9 "RelocatingPatch$CopyOrder" "order" "[I", .methodLink RX2 26 yX2_hasStep] ++ wsX40 ++ wsX20)
def wsX4_isDropped : List Cond := .code yX4_isDropped cX4_isDropped 3 (some .int) :: ([.fieldLink RX4 36 "RelocatingPatch" "copyOrder" "LRelocatingPatch$CopyOrder;", .methodLink RX4 87 yX4_blockError, .instanceMethod yX4_blockError, .selects RX4 yX4_blockError yX4_blockError, .initialized RX4, .code yX4_blockError cX4_blockError 2 (some .int), .fieldLink RX4 40 "RelocatingPatch" "built" "Z", .fieldLink RX4 22 "RelocatingPatch" "blocks" "LRelocatingPatch$Blocks;", .methodLink RX4 105 yX1_has, .instanceMethod yX1_has, .selects RX1 yX1_has yX1_has, .initialized RX1, .code yX1_has cX1_has 2 (some .boolean), .fieldLink RX1 21 "RelocatingPatch$Blocks" "size" "I", .methodLink RX4 148 yX2_drops, .instanceMethod yX2_drops, .selects RX2 yX2_drops yX2_drops, .initialized RX2, .code yX2_drops cX2_drops 2 (some .boolean), .fieldLink RX2 19 "RelocatingPatch$CopyOrder" "dropped" "[Z"] ++ wsX40 ++ wsX10 ++ wsX20)
def wsX4_isCopied_r1 : List Cond := [Cond.fieldLink RX4 22 "RelocatingPatch" "blocks" "LRelocatingPatch$Blocks;", Cond.fieldLink RX4 36 "RelocatingPatch" "copyOrder" "LRelocatingPatch$CopyOrder;", Cond.methodLink RX4 102 yX1_withNewIndex, Cond.instanceMethod yX1_withNewIndex, Cond.selects RX1 yX1_withNewIndex yX1_withNewIndex, Cond.initialized RX1, Cond.code yX1_withNewIndex cX1_withNewIndex 3 (some .int), Cond.fieldLink RX1 21 "RelocatingPatch$Blocks" "size" "I", Cond.methodLink RX1 39 yX1_covers, Cond.instanceMethod yX1_covers, Cond.selects RX1 yX1_covers yX1_covers, Cond.code yX1_covers cX1_covers 4 (some .boolean), Cond.methodLink RX1 29 yX1_newStart, Cond.instanceMethod yX1_newStart, Cond.selects RX1 yX1_newStart yX1_newStart, Cond.code yX1_newStart cX1_newStart 2 (some .int), Cond.fieldLink RX1 15 "RelocatingPatch$Blocks" "newStarts" "[I", Cond.methodLink RX1 25 yX1_has, Cond.instanceMethod yX1_has, Cond.selects RX1 yX1_has yX1_has, Cond.code yX1_has cX1_has 2 (some .boolean), Cond.methodLink RX1 36 yX1_length, Cond.instanceMethod yX1_length, Cond.selects RX1 yX1_length yX1_length]
def wsX4_isCopied_r2 : List Cond := [Cond.code yX1_length cX1_length 2 (some .int), Cond.fieldLink RX1 18 "RelocatingPatch$Blocks" "lengths" "[I", Cond.methodLink RX4 148 yX2_drops, Cond.instanceMethod yX2_drops, Cond.selects RX2 yX2_drops yX2_drops, Cond.initialized RX2, Cond.code yX2_drops cX2_drops 2 (some .boolean), Cond.fieldLink RX2 19 "RelocatingPatch$CopyOrder" "dropped" "[Z"]
def wsX4_isCopied : List Cond := .code yX4_isCopied cX4_isCopied 3 (some .boolean) :: ((wsX4_isCopied_r1 ++ wsX4_isCopied_r2) ++ wsX40 ++ wsX10 ++ wsX20)
def wsX4_inPlaceWordCost_r1 : List Cond := [Cond.methodLink RX4 162 yX4_isCopied, Cond.instanceMethod yX4_isCopied, Cond.selects RX4 yX4_isCopied yX4_isCopied, Cond.initialized RX4, Cond.code yX4_isCopied cX4_isCopied 3 (some .boolean), Cond.fieldLink RX4 22 "RelocatingPatch" "blocks" "LRelocatingPatch$Blocks;", Cond.fieldLink RX4 36 "RelocatingPatch" "copyOrder" "LRelocatingPatch$CopyOrder;", Cond.methodLink RX4 102 yX1_withNewIndex, Cond.instanceMethod yX1_withNewIndex, Cond.selects RX1 yX1_withNewIndex yX1_withNewIndex, Cond.initialized RX1, Cond.code yX1_withNewIndex cX1_withNewIndex 3 (some .int), Cond.fieldLink RX1 21 "RelocatingPatch$Blocks" "size" "I", Cond.methodLink RX1 39 yX1_covers, Cond.instanceMethod yX1_covers, Cond.selects RX1 yX1_covers yX1_covers, Cond.code yX1_covers cX1_covers 4 (some .boolean), Cond.methodLink RX1 29 yX1_newStart, Cond.instanceMethod yX1_newStart, Cond.selects RX1 yX1_newStart yX1_newStart, Cond.code yX1_newStart cX1_newStart 2 (some .int), Cond.fieldLink RX1 15 "RelocatingPatch$Blocks" "newStarts" "[I", Cond.methodLink RX1 25 yX1_has, Cond.instanceMethod yX1_has]
def wsX4_inPlaceWordCost_r2 : List Cond := [Cond.selects RX1 yX1_has yX1_has, Cond.code yX1_has cX1_has 2 (some .boolean), Cond.methodLink RX1 36 yX1_length, Cond.instanceMethod yX1_length, Cond.selects RX1 yX1_length yX1_length, Cond.code yX1_length cX1_length 2 (some .int), Cond.fieldLink RX1 18 "RelocatingPatch$Blocks" "lengths" "[I", Cond.methodLink RX4 148 yX2_drops, Cond.instanceMethod yX2_drops, Cond.selects RX2 yX2_drops yX2_drops, Cond.initialized RX2, Cond.code yX2_drops cX2_drops 2 (some .boolean), Cond.fieldLink RX2 19 "RelocatingPatch$CopyOrder" "dropped" "[Z", Cond.methodLink RX4 118 yX4_needsCorrection, Cond.instanceMethod yX4_needsCorrection, Cond.selects RX4 yX4_needsCorrection yX4_needsCorrection, Cond.code yX4_needsCorrection cX4_needsCorrection 3 (some .boolean), Cond.fieldLink RX4 16 "RelocatingPatch" "newImage" "LRelocatingPatch$Image;", Cond.methodLink RX4 111 yX4_prediction, Cond.instanceMethod yX4_prediction, Cond.selects RX4 yX4_prediction yX4_prediction, Cond.code yX4_prediction cX4_prediction 5 (some .int), Cond.fieldLink RX4 10 "RelocatingPatch" "oldImage" "LRelocatingPatch$Image;", Cond.methodLink RX4 130 yX1_oldIndex]
def wsX4_inPlaceWordCost_r3 : List Cond := [Cond.instanceMethod yX1_oldIndex, Cond.selects RX1 yX1_oldIndex yX1_oldIndex, Cond.code yX1_oldIndex cX1_oldIndex 3 (some .int), Cond.methodLink RX1 33 yX1_oldStart, Cond.instanceMethod yX1_oldStart, Cond.selects RX1 yX1_oldStart yX1_oldStart, Cond.code yX1_oldStart cX1_oldStart 2 (some .int), Cond.fieldLink RX1 9 "RelocatingPatch$Blocks" "oldStarts" "[I", Cond.methodLink RX4 55 yX3_valueAt, Cond.instanceMethod yX3_valueAt, Cond.selects RX3 yX3_valueAt yX3_valueAt, Cond.initialized RX3, Cond.code yX3_valueAt cX3_valueAt 2 (some .int), Cond.fieldLink RX3 9 "RelocatingPatch$Image" "values" "[I", Cond.methodLink RX3 23 yX3_holds, Cond.instanceMethod yX3_holds, Cond.selects RX3 yX3_holds yX3_holds, Cond.code yX3_holds cX3_holds 2 (some .boolean), Cond.fieldLink RX3 19 "RelocatingPatch$Image" "size" "I", Cond.methodLink RX4 133 yX3_isAddress, Cond.instanceMethod yX3_isAddress, Cond.selects RX3 yX3_isAddress yX3_isAddress, Cond.code yX3_isAddress cX3_isAddress 2 (some .boolean), Cond.fieldLink RX3 15 "RelocatingPatch$Image" "addresses" "[Z"]
def wsX4_inPlaceWordCost_r4 : List Cond := [Cond.methodLink RX4 108 yX1_moved, Cond.instanceMethod yX1_moved, Cond.selects RX1 yX1_moved yX1_moved, Cond.code yX1_moved cX1_moved 5 (some .int)]
def wsX4_inPlaceWordCost : List Cond := .code yX4_inPlaceWordCost cX4_inPlaceWordCost 2 (some .int) :: ((wsX4_inPlaceWordCost_r1 ++ (wsX4_inPlaceWordCost_r2 ++ (wsX4_inPlaceWordCost_r3 ++ wsX4_inPlaceWordCost_r4))) ++ wsX40 ++ wsX10 ++ wsX20 ++ wsX30)
def wsX4_inPlaceSize_r1 : List Cond := [Cond.fieldLink RX4 40 "RelocatingPatch" "built" "Z", Cond.fieldLink RX4 36 "RelocatingPatch" "copyOrder" "LRelocatingPatch$CopyOrder;", Cond.fieldLink RX4 16 "RelocatingPatch" "newImage" "LRelocatingPatch$Image;", Cond.methodLink RX4 139 yX2_steps, Cond.instanceMethod yX2_steps, Cond.selects RX2 yX2_steps yX2_steps, Cond.initialized RX2, Cond.code yX2_steps cX2_steps 1 (some .int), Cond.fieldLink RX2 22 "RelocatingPatch$CopyOrder" "steps" "I", Cond.methodLink RX4 63 yX3_size, Cond.instanceMethod yX3_size, Cond.selects RX3 yX3_size yX3_size, Cond.initialized RX3, Cond.code yX3_size cX3_size 1 (some .int), Cond.fieldLink RX3 19 "RelocatingPatch$Image" "size" "I", Cond.methodLink RX4 151 yX4_inPlaceWordCost, Cond.instanceMethod yX4_inPlaceWordCost, Cond.selects RX4 yX4_inPlaceWordCost yX4_inPlaceWordCost, Cond.initialized RX4, Cond.code yX4_inPlaceWordCost cX4_inPlaceWordCost 2 (some .int), Cond.methodLink RX4 162 yX4_isCopied, Cond.instanceMethod yX4_isCopied, Cond.selects RX4 yX4_isCopied yX4_isCopied, Cond.code yX4_isCopied cX4_isCopied 3 (some .boolean)]
def wsX4_inPlaceSize_r2 : List Cond := [Cond.fieldLink RX4 22 "RelocatingPatch" "blocks" "LRelocatingPatch$Blocks;", Cond.methodLink RX4 102 yX1_withNewIndex, Cond.instanceMethod yX1_withNewIndex, Cond.selects RX1 yX1_withNewIndex yX1_withNewIndex, Cond.initialized RX1, Cond.code yX1_withNewIndex cX1_withNewIndex 3 (some .int), Cond.fieldLink RX1 21 "RelocatingPatch$Blocks" "size" "I", Cond.methodLink RX1 39 yX1_covers, Cond.instanceMethod yX1_covers, Cond.selects RX1 yX1_covers yX1_covers, Cond.code yX1_covers cX1_covers 4 (some .boolean), Cond.methodLink RX1 29 yX1_newStart, Cond.instanceMethod yX1_newStart, Cond.selects RX1 yX1_newStart yX1_newStart, Cond.code yX1_newStart cX1_newStart 2 (some .int), Cond.fieldLink RX1 15 "RelocatingPatch$Blocks" "newStarts" "[I", Cond.methodLink RX1 25 yX1_has, Cond.instanceMethod yX1_has, Cond.selects RX1 yX1_has yX1_has, Cond.code yX1_has cX1_has 2 (some .boolean), Cond.methodLink RX1 36 yX1_length, Cond.instanceMethod yX1_length, Cond.selects RX1 yX1_length yX1_length, Cond.code yX1_length cX1_length 2 (some .int)]
def wsX4_inPlaceSize_r3 : List Cond := [Cond.fieldLink RX1 18 "RelocatingPatch$Blocks" "lengths" "[I", Cond.methodLink RX4 148 yX2_drops, Cond.instanceMethod yX2_drops, Cond.selects RX2 yX2_drops yX2_drops, Cond.code yX2_drops cX2_drops 2 (some .boolean), Cond.fieldLink RX2 19 "RelocatingPatch$CopyOrder" "dropped" "[Z", Cond.methodLink RX4 118 yX4_needsCorrection, Cond.instanceMethod yX4_needsCorrection, Cond.selects RX4 yX4_needsCorrection yX4_needsCorrection, Cond.code yX4_needsCorrection cX4_needsCorrection 3 (some .boolean), Cond.methodLink RX4 111 yX4_prediction, Cond.instanceMethod yX4_prediction, Cond.selects RX4 yX4_prediction yX4_prediction, Cond.code yX4_prediction cX4_prediction 5 (some .int), Cond.fieldLink RX4 10 "RelocatingPatch" "oldImage" "LRelocatingPatch$Image;", Cond.methodLink RX4 130 yX1_oldIndex, Cond.instanceMethod yX1_oldIndex, Cond.selects RX1 yX1_oldIndex yX1_oldIndex, Cond.code yX1_oldIndex cX1_oldIndex 3 (some .int), Cond.methodLink RX1 33 yX1_oldStart, Cond.instanceMethod yX1_oldStart, Cond.selects RX1 yX1_oldStart yX1_oldStart, Cond.code yX1_oldStart cX1_oldStart 2 (some .int), Cond.fieldLink RX1 9 "RelocatingPatch$Blocks" "oldStarts" "[I"]
def wsX4_inPlaceSize_r4 : List Cond := [Cond.methodLink RX4 55 yX3_valueAt, Cond.instanceMethod yX3_valueAt, Cond.selects RX3 yX3_valueAt yX3_valueAt, Cond.code yX3_valueAt cX3_valueAt 2 (some .int), Cond.fieldLink RX3 9 "RelocatingPatch$Image" "values" "[I", Cond.methodLink RX3 23 yX3_holds, Cond.instanceMethod yX3_holds, Cond.selects RX3 yX3_holds yX3_holds, Cond.code yX3_holds cX3_holds 2 (some .boolean), Cond.methodLink RX4 133 yX3_isAddress, Cond.instanceMethod yX3_isAddress, Cond.selects RX3 yX3_isAddress yX3_isAddress, Cond.code yX3_isAddress cX3_isAddress 2 (some .boolean), Cond.fieldLink RX3 15 "RelocatingPatch$Image" "addresses" "[Z", Cond.methodLink RX4 108 yX1_moved, Cond.instanceMethod yX1_moved, Cond.selects RX1 yX1_moved yX1_moved, Cond.code yX1_moved cX1_moved 5 (some .int)]
def wsX4_inPlaceSize : List Cond := .code yX4_inPlaceSize cX4_inPlaceSize 3 (some .int) :: ((wsX4_inPlaceSize_r1 ++ (wsX4_inPlaceSize_r2 ++ (wsX4_inPlaceSize_r3 ++ wsX4_inPlaceSize_r4))) ++ wsX40 ++ wsX20 ++ wsX30 ++ wsX10)
def wsX4_memoryValue_r1 : List Cond := [Cond.fieldLink RX4 10 "RelocatingPatch" "oldImage" "LRelocatingPatch$Image;", Cond.fieldLink RX4 36 "RelocatingPatch" "copyOrder" "LRelocatingPatch$CopyOrder;", Cond.fieldLink RX4 22 "RelocatingPatch" "blocks" "LRelocatingPatch$Blocks;", Cond.methodLink RX4 165 yX2_origin, Cond.instanceMethod yX2_origin, Cond.selects RX2 yX2_origin yX2_origin, Cond.initialized RX2, Cond.code yX2_origin cX2_origin 7 (some .int), Cond.methodLink RX2 30 yX2_blockOfStep, Cond.instanceMethod yX2_blockOfStep, Cond.selects RX2 yX2_blockOfStep yX2_blockOfStep, Cond.code yX2_blockOfStep cX2_blockOfStep 2 (some .int), Cond.fieldLink RX2 9 "RelocatingPatch$CopyOrder" "order" "[I", Cond.methodLink RX2 26 yX2_hasStep, Cond.instanceMethod yX2_hasStep, Cond.selects RX2 yX2_hasStep yX2_hasStep, Cond.code yX2_hasStep cX2_hasStep 2 (some .boolean), Cond.fieldLink RX2 22 "RelocatingPatch$CopyOrder" "steps" "I", Cond.methodLink RX2 34 yX1_covers, Cond.instanceMethod yX1_covers, Cond.selects RX1 yX1_covers yX1_covers, Cond.initialized RX1, Cond.code yX1_covers cX1_covers 4 (some .boolean), Cond.methodLink RX1 29 yX1_newStart]
def wsX4_memoryValue_r2 : List Cond := [Cond.instanceMethod yX1_newStart, Cond.selects RX1 yX1_newStart yX1_newStart, Cond.code yX1_newStart cX1_newStart 2 (some .int), Cond.fieldLink RX1 15 "RelocatingPatch$Blocks" "newStarts" "[I", Cond.methodLink RX1 25 yX1_has, Cond.instanceMethod yX1_has, Cond.selects RX1 yX1_has yX1_has, Cond.code yX1_has cX1_has 2 (some .boolean), Cond.fieldLink RX1 21 "RelocatingPatch$Blocks" "size" "I", Cond.methodLink RX1 36 yX1_length, Cond.instanceMethod yX1_length, Cond.selects RX1 yX1_length yX1_length, Cond.code yX1_length cX1_length 2 (some .int), Cond.fieldLink RX1 18 "RelocatingPatch$Blocks" "lengths" "[I", Cond.methodLink RX2 40 yX1_oldIndex, Cond.instanceMethod yX1_oldIndex, Cond.selects RX1 yX1_oldIndex yX1_oldIndex, Cond.code yX1_oldIndex cX1_oldIndex 3 (some .int), Cond.methodLink RX1 33 yX1_oldStart, Cond.instanceMethod yX1_oldStart, Cond.selects RX1 yX1_oldStart yX1_oldStart, Cond.code yX1_oldStart cX1_oldStart 2 (some .int), Cond.fieldLink RX1 9 "RelocatingPatch$Blocks" "oldStarts" "[I", Cond.methodLink RX4 55 yX3_valueAt]
def wsX4_memoryValue_r3 : List Cond := [Cond.instanceMethod yX3_valueAt, Cond.selects RX3 yX3_valueAt yX3_valueAt, Cond.initialized RX3, Cond.code yX3_valueAt cX3_valueAt 2 (some .int), Cond.fieldLink RX3 9 "RelocatingPatch$Image" "values" "[I", Cond.methodLink RX3 23 yX3_holds, Cond.instanceMethod yX3_holds, Cond.selects RX3 yX3_holds yX3_holds, Cond.code yX3_holds cX3_holds 2 (some .boolean), Cond.fieldLink RX3 19 "RelocatingPatch$Image" "size" "I"]
def wsX4_memoryValue : List Cond := .code yX4_memoryValue cX4_memoryValue 3 (some .int) :: ((wsX4_memoryValue_r1 ++ (wsX4_memoryValue_r2 ++ wsX4_memoryValue_r3)) ++ wsX40 ++ wsX20 ++ wsX10 ++ wsX30)
def wsX4_memoryAfter_r1 : List Cond := [Cond.fieldLink RX4 40 "RelocatingPatch" "built" "Z", Cond.fieldLink RX4 36 "RelocatingPatch" "copyOrder" "LRelocatingPatch$CopyOrder;", Cond.fieldLink RX4 10 "RelocatingPatch" "oldImage" "LRelocatingPatch$Image;", Cond.fieldLink RX4 16 "RelocatingPatch" "newImage" "LRelocatingPatch$Image;", Cond.methodLink RX4 154 Lib.Math.max.name, Cond.static Lib.Math.max.name, Cond.initialized "java/lang/Math", Cond.code Lib.Math.max.name Lib.Math.max.code 2 (some .int), Cond.methodLink RX4 139 yX2_steps, Cond.instanceMethod yX2_steps, Cond.selects RX2 yX2_steps yX2_steps, Cond.initialized RX2, Cond.code yX2_steps cX2_steps 1 (some .int), Cond.fieldLink RX2 22 "RelocatingPatch$CopyOrder" "steps" "I", Cond.methodLink RX4 63 yX3_size, Cond.instanceMethod yX3_size, Cond.selects RX3 yX3_size yX3_size, Cond.initialized RX3, Cond.code yX3_size cX3_size 1 (some .int), Cond.fieldLink RX3 19 "RelocatingPatch$Image" "size" "I", Cond.methodLink RX4 159 yX4_memoryValue, Cond.instanceMethod yX4_memoryValue, Cond.selects RX4 yX4_memoryValue yX4_memoryValue, Cond.initialized RX4]
def wsX4_memoryAfter_r2 : List Cond := [Cond.code yX4_memoryValue cX4_memoryValue 3 (some .int), Cond.fieldLink RX4 22 "RelocatingPatch" "blocks" "LRelocatingPatch$Blocks;", Cond.methodLink RX4 165 yX2_origin, Cond.instanceMethod yX2_origin, Cond.selects RX2 yX2_origin yX2_origin, Cond.code yX2_origin cX2_origin 7 (some .int), Cond.methodLink RX2 30 yX2_blockOfStep, Cond.instanceMethod yX2_blockOfStep, Cond.selects RX2 yX2_blockOfStep yX2_blockOfStep, Cond.code yX2_blockOfStep cX2_blockOfStep 2 (some .int), Cond.fieldLink RX2 9 "RelocatingPatch$CopyOrder" "order" "[I", Cond.methodLink RX2 26 yX2_hasStep, Cond.instanceMethod yX2_hasStep, Cond.selects RX2 yX2_hasStep yX2_hasStep, Cond.code yX2_hasStep cX2_hasStep 2 (some .boolean), Cond.methodLink RX2 34 yX1_covers, Cond.instanceMethod yX1_covers, Cond.selects RX1 yX1_covers yX1_covers, Cond.initialized RX1, Cond.code yX1_covers cX1_covers 4 (some .boolean), Cond.methodLink RX1 29 yX1_newStart, Cond.instanceMethod yX1_newStart, Cond.selects RX1 yX1_newStart yX1_newStart, Cond.code yX1_newStart cX1_newStart 2 (some .int)]
def wsX4_memoryAfter_r3 : List Cond := [Cond.fieldLink RX1 15 "RelocatingPatch$Blocks" "newStarts" "[I", Cond.methodLink RX1 25 yX1_has, Cond.instanceMethod yX1_has, Cond.selects RX1 yX1_has yX1_has, Cond.code yX1_has cX1_has 2 (some .boolean), Cond.fieldLink RX1 21 "RelocatingPatch$Blocks" "size" "I", Cond.methodLink RX1 36 yX1_length, Cond.instanceMethod yX1_length, Cond.selects RX1 yX1_length yX1_length, Cond.code yX1_length cX1_length 2 (some .int), Cond.fieldLink RX1 18 "RelocatingPatch$Blocks" "lengths" "[I", Cond.methodLink RX2 40 yX1_oldIndex, Cond.instanceMethod yX1_oldIndex, Cond.selects RX1 yX1_oldIndex yX1_oldIndex, Cond.code yX1_oldIndex cX1_oldIndex 3 (some .int), Cond.methodLink RX1 33 yX1_oldStart, Cond.instanceMethod yX1_oldStart, Cond.selects RX1 yX1_oldStart yX1_oldStart, Cond.code yX1_oldStart cX1_oldStart 2 (some .int), Cond.fieldLink RX1 9 "RelocatingPatch$Blocks" "oldStarts" "[I", Cond.methodLink RX4 55 yX3_valueAt, Cond.instanceMethod yX3_valueAt, Cond.selects RX3 yX3_valueAt yX3_valueAt, Cond.code yX3_valueAt cX3_valueAt 2 (some .int)]
def wsX4_memoryAfter_r4 : List Cond := [Cond.fieldLink RX3 9 "RelocatingPatch$Image" "values" "[I", Cond.methodLink RX3 23 yX3_holds, Cond.instanceMethod yX3_holds, Cond.selects RX3 yX3_holds yX3_holds, Cond.code yX3_holds cX3_holds 2 (some .boolean)]
def wsX4_memoryAfter : List Cond := .code yX4_memoryAfter cX4_memoryAfter 4 (some .int) :: ((wsX4_memoryAfter_r1 ++ (wsX4_memoryAfter_r2 ++ (wsX4_memoryAfter_r3 ++ wsX4_memoryAfter_r4))) ++ wsX40 ++ wsX20 ++ wsX30 ++ wsX10)
def wsX4_patchedValue_r1 : List Cond := [Cond.fieldLink RX4 16 "RelocatingPatch" "newImage" "LRelocatingPatch$Image;", Cond.fieldLink RX4 36 "RelocatingPatch" "copyOrder" "LRelocatingPatch$CopyOrder;", Cond.fieldLink RX4 22 "RelocatingPatch" "blocks" "LRelocatingPatch$Blocks;", Cond.fieldLink RX4 10 "RelocatingPatch" "oldImage" "LRelocatingPatch$Image;", Cond.methodLink RX4 99 yX4_newWordError, Cond.instanceMethod yX4_newWordError, Cond.selects RX4 yX4_newWordError yX4_newWordError, Cond.initialized RX4, Cond.code yX4_newWordError cX4_newWordError 2 (some .int), Cond.fieldLink RX4 40 "RelocatingPatch" "built" "Z", Cond.methodLink RX4 48 yX3_holds, Cond.instanceMethod yX3_holds, Cond.selects RX3 yX3_holds yX3_holds, Cond.initialized RX3, Cond.code yX3_holds cX3_holds 2 (some .boolean), Cond.fieldLink RX3 19 "RelocatingPatch$Image" "size" "I", Cond.methodLink RX4 162 yX4_isCopied, Cond.instanceMethod yX4_isCopied, Cond.selects RX4 yX4_isCopied yX4_isCopied, Cond.code yX4_isCopied cX4_isCopied 3 (some .boolean), Cond.methodLink RX4 102 yX1_withNewIndex, Cond.instanceMethod yX1_withNewIndex, Cond.selects RX1 yX1_withNewIndex yX1_withNewIndex, Cond.initialized RX1]
def wsX4_patchedValue_r2 : List Cond := [Cond.code yX1_withNewIndex cX1_withNewIndex 3 (some .int), Cond.fieldLink RX1 21 "RelocatingPatch$Blocks" "size" "I", Cond.methodLink RX1 39 yX1_covers, Cond.instanceMethod yX1_covers, Cond.selects RX1 yX1_covers yX1_covers, Cond.code yX1_covers cX1_covers 4 (some .boolean), Cond.methodLink RX1 29 yX1_newStart, Cond.instanceMethod yX1_newStart, Cond.selects RX1 yX1_newStart yX1_newStart, Cond.code yX1_newStart cX1_newStart 2 (some .int), Cond.fieldLink RX1 15 "RelocatingPatch$Blocks" "newStarts" "[I", Cond.methodLink RX1 25 yX1_has, Cond.instanceMethod yX1_has, Cond.selects RX1 yX1_has yX1_has, Cond.code yX1_has cX1_has 2 (some .boolean), Cond.methodLink RX1 36 yX1_length, Cond.instanceMethod yX1_length, Cond.selects RX1 yX1_length yX1_length, Cond.code yX1_length cX1_length 2 (some .int), Cond.fieldLink RX1 18 "RelocatingPatch$Blocks" "lengths" "[I", Cond.methodLink RX4 148 yX2_drops, Cond.instanceMethod yX2_drops, Cond.selects RX2 yX2_drops yX2_drops, Cond.initialized RX2]
def wsX4_patchedValue_r3 : List Cond := [Cond.code yX2_drops cX2_drops 2 (some .boolean), Cond.fieldLink RX2 19 "RelocatingPatch$CopyOrder" "dropped" "[Z", Cond.methodLink RX4 118 yX4_needsCorrection, Cond.instanceMethod yX4_needsCorrection, Cond.selects RX4 yX4_needsCorrection yX4_needsCorrection, Cond.code yX4_needsCorrection cX4_needsCorrection 3 (some .boolean), Cond.methodLink RX4 111 yX4_prediction, Cond.instanceMethod yX4_prediction, Cond.selects RX4 yX4_prediction yX4_prediction, Cond.code yX4_prediction cX4_prediction 5 (some .int), Cond.methodLink RX4 130 yX1_oldIndex, Cond.instanceMethod yX1_oldIndex, Cond.selects RX1 yX1_oldIndex yX1_oldIndex, Cond.code yX1_oldIndex cX1_oldIndex 3 (some .int), Cond.methodLink RX1 33 yX1_oldStart, Cond.instanceMethod yX1_oldStart, Cond.selects RX1 yX1_oldStart yX1_oldStart, Cond.code yX1_oldStart cX1_oldStart 2 (some .int), Cond.fieldLink RX1 9 "RelocatingPatch$Blocks" "oldStarts" "[I", Cond.methodLink RX4 55 yX3_valueAt, Cond.instanceMethod yX3_valueAt, Cond.selects RX3 yX3_valueAt yX3_valueAt, Cond.code yX3_valueAt cX3_valueAt 2 (some .int), Cond.fieldLink RX3 9 "RelocatingPatch$Image" "values" "[I"]
def wsX4_patchedValue_r4 : List Cond := [Cond.methodLink RX3 23 yX3_holds, Cond.methodLink RX4 133 yX3_isAddress, Cond.instanceMethod yX3_isAddress, Cond.selects RX3 yX3_isAddress yX3_isAddress, Cond.code yX3_isAddress cX3_isAddress 2 (some .boolean), Cond.fieldLink RX3 15 "RelocatingPatch$Image" "addresses" "[Z", Cond.methodLink RX4 108 yX1_moved, Cond.instanceMethod yX1_moved, Cond.selects RX1 yX1_moved yX1_moved, Cond.code yX1_moved cX1_moved 5 (some .int), Cond.methodLink RX4 139 yX2_steps, Cond.instanceMethod yX2_steps, Cond.selects RX2 yX2_steps yX2_steps, Cond.code yX2_steps cX2_steps 1 (some .int), Cond.fieldLink RX2 22 "RelocatingPatch$CopyOrder" "steps" "I", Cond.methodLink RX4 159 yX4_memoryValue, Cond.instanceMethod yX4_memoryValue, Cond.selects RX4 yX4_memoryValue yX4_memoryValue, Cond.code yX4_memoryValue cX4_memoryValue 3 (some .int), Cond.methodLink RX4 165 yX2_origin, Cond.instanceMethod yX2_origin, Cond.selects RX2 yX2_origin yX2_origin, Cond.code yX2_origin cX2_origin 7 (some .int), Cond.methodLink RX2 30 yX2_blockOfStep]
def wsX4_patchedValue_r5 : List Cond := [Cond.instanceMethod yX2_blockOfStep, Cond.selects RX2 yX2_blockOfStep yX2_blockOfStep, Cond.code yX2_blockOfStep cX2_blockOfStep 2 (some .int), Cond.fieldLink RX2 9 "RelocatingPatch$CopyOrder" "order" "[I", Cond.methodLink RX2 26 yX2_hasStep, Cond.instanceMethod yX2_hasStep, Cond.selects RX2 yX2_hasStep yX2_hasStep, Cond.code yX2_hasStep cX2_hasStep 2 (some .boolean), Cond.methodLink RX2 34 yX1_covers, Cond.methodLink RX2 40 yX1_oldIndex]
def wsX4_patchedValue : List Cond := .code yX4_patchedValue cX4_patchedValue 5 (some .int) :: ((wsX4_patchedValue_r1 ++ (wsX4_patchedValue_r2 ++ (wsX4_patchedValue_r3 ++ (wsX4_patchedValue_r4 ++ wsX4_patchedValue_r5)))) ++ wsX40 ++ wsX30 ++ wsX10 ++ wsX20)
def wsX5_init : List Cond := .code yX5_init cX5_init 1 none :: ([.methodLink RX5 1 objectInit, .instanceMethod objectInit, .code objectInit ⟨#[0xb1]⟩ 1 none, .arrayClass .int, .fieldLink RX5 7 "RelocatingPatchModel" "oldValue" "[I", .arrayClass .boolean, .fieldLink RX5 13 "RelocatingPatchModel" "oldAddress" "[Z", .fieldLink RX5 17 "RelocatingPatchModel" "newValues" "[I", .fieldLink RX5 20 "RelocatingPatchModel" "newAddress" "[Z", .fieldLink RX5 23 "RelocatingPatchModel" "oldStart" "[I", .fieldLink RX5 26 "RelocatingPatchModel" "newStart" "[I", .fieldLink RX5 29 "RelocatingPatchModel" "length" "[I", .fieldLink RX5 32 "RelocatingPatchModel" "blockAt" "[I", .fieldLink RX5 35 "RelocatingPatchModel" "isTaken" "[Z", .fieldLink RX5 38 "RelocatingPatchModel" "run" "[I", .fieldLink RX5 41 "RelocatingPatchModel" "copied" "[I", .fieldLink RX5 44 "RelocatingPatchModel" "stateOf" "[I", .fieldLink RX5 47 "RelocatingPatchModel" "memory" "[I", .fieldLink RX5 50 "RelocatingPatchModel" "buffer" "[I", .fieldLink RX5 53 "RelocatingPatchModel" "isBuilt" "Z"] ++ wsX50)
def wsX5_within : List Cond := .code yX5_within cX5_within 3 (some .boolean) :: ([])
def wsX5_isNew : List Cond := .code yX5_isNew cX5_isNew 2 (some .boolean) :: ([.fieldLink RX5 57 "RelocatingPatchModel" "news" "I", .methodLink RX5 61 yX5_within, .static yX5_within, .initialized RX5, .code yX5_within cX5_within 3 (some .boolean)] ++ wsX50)
def wsX5_appendOld : List Cond := .code yX5_appendOld cX5_appendOld 3 (some .int) :: ([.fieldLink RX5 65 "RelocatingPatchModel" "olds" "I", .fieldLink RX5 7 "RelocatingPatchModel" "oldValue" "[I", .fieldLink RX5 13 "RelocatingPatchModel" "oldAddress" "[Z", .fieldLink RX5 53 "RelocatingPatchModel" "isBuilt" "Z", .methodLink RX5 61 yX5_within, .static yX5_within, .initialized RX5, .code yX5_within cX5_within 3 (some .boolean)] ++ wsX50)
def wsX5_appendNew : List Cond := .code yX5_appendNew cX5_appendNew 3 (some .int) :: ([.fieldLink RX5 57 "RelocatingPatchModel" "news" "I", .fieldLink RX5 17 "RelocatingPatchModel" "newValues" "[I", .fieldLink RX5 20 "RelocatingPatchModel" "newAddress" "[Z", .fieldLink RX5 53 "RelocatingPatchModel" "isBuilt" "Z", .methodLink RX5 61 yX5_within, .static yX5_within, .initialized RX5, .code yX5_within cX5_within 3 (some .boolean)] ++ wsX50)
def wsX5_setNew : List Cond := .code yX5_setNew cX5_setNew 4 (some .int) :: ([.fieldLink RX5 17 "RelocatingPatchModel" "newValues" "[I", .fieldLink RX5 53 "RelocatingPatchModel" "isBuilt" "Z", .methodLink RX5 68 yX5_isNew, .instanceMethod yX5_isNew, .selects RX5 yX5_isNew yX5_isNew, .initialized RX5, .code yX5_isNew cX5_isNew 2 (some .boolean), .fieldLink RX5 57 "RelocatingPatchModel" "news" "I", .methodLink RX5 61 yX5_within, .static yX5_within, .code yX5_within cX5_within 3 (some .boolean)] ++ wsX50)
def wsX5_clear : List Cond := .code yX5_clear cX5_clear 2 (some .int) :: ([.fieldLink RX5 65 "RelocatingPatchModel" "olds" "I", .fieldLink RX5 57 "RelocatingPatchModel" "news" "I", .fieldLink RX5 53 "RelocatingPatchModel" "isBuilt" "Z"] ++ wsX50)
def wsX5_oldLength : List Cond := .code yX5_oldLength cX5_oldLength 1 (some .int) :: ([.fieldLink RX5 65 "RelocatingPatchModel" "olds" "I"] ++ wsX50)
def wsX5_newLength : List Cond := .code yX5_newLength cX5_newLength 1 (some .int) :: ([.fieldLink RX5 57 "RelocatingPatchModel" "news" "I"] ++ wsX50)
def wsX5_newValue : List Cond := .code yX5_newValue cX5_newValue 2 (some .int) :: ([.fieldLink RX5 17 "RelocatingPatchModel" "newValues" "[I", .methodLink RX5 68 yX5_isNew, .instanceMethod yX5_isNew, .selects RX5 yX5_isNew yX5_isNew, .initialized RX5, .code yX5_isNew cX5_isNew 2 (some .boolean), .fieldLink RX5 57 "RelocatingPatchModel" "news" "I", .methodLink RX5 61 yX5_within, .static yX5_within, .code yX5_within cX5_within 3 (some .boolean)] ++ wsX50)
def wsX5_matches : List Cond := .code yX5_matches cX5_matches 5 (some .boolean) :: ([.fieldLink RX5 13 "RelocatingPatchModel" "oldAddress" "[Z", .fieldLink RX5 20 "RelocatingPatchModel" "newAddress" "[Z", .fieldLink RX5 7 "RelocatingPatchModel" "oldValue" "[I", .fieldLink RX5 17 "RelocatingPatchModel" "newValues" "[I"] ++ wsX50)
def wsX5_findsRuns : List Cond := .code yX5_findsRuns cX5_findsRuns 4 none :: ([.fieldLink RX5 57 "RelocatingPatchModel" "news" "I", .fieldLink RX5 65 "RelocatingPatchModel" "olds" "I", .fieldLink RX5 32 "RelocatingPatchModel" "blockAt" "[I", .fieldLink RX5 35 "RelocatingPatchModel" "isTaken" "[Z", .fieldLink RX5 38 "RelocatingPatchModel" "run" "[I", .methodLink RX5 72 yX5_matches, .instanceMethod yX5_matches, .selects RX5 yX5_matches yX5_matches, .initialized RX5, .code yX5_matches cX5_matches 5 (some .boolean), .fieldLink RX5 13 "RelocatingPatchModel" "oldAddress" "[Z", .fieldLink RX5 20 "RelocatingPatchModel" "newAddress" "[Z", .fieldLink RX5 7 "RelocatingPatchModel" "oldValue" "[I", .fieldLink RX5 17 "RelocatingPatchModel" "newValues" "[I"] ++ wsX50)
def wsX5_longestRun : List Cond := .code yX5_longestRun cX5_longestRun 4 (some .int) :: ([.fieldLink RX5 57 "RelocatingPatchModel" "news" "I", .fieldLink RX5 65 "RelocatingPatchModel" "olds" "I", .fieldLink RX5 38 "RelocatingPatchModel" "run" "[I", .methodLink RX5 76 yX5_findsRuns, .instanceMethod yX5_findsRuns, .selects RX5 yX5_findsRuns yX5_findsRuns, .initialized RX5, .code yX5_findsRuns cX5_findsRuns 4 none, .fieldLink RX5 32 "RelocatingPatchModel" "blockAt" "[I", .fieldLink RX5 35 "RelocatingPatchModel" "isTaken" "[Z", .methodLink RX5 72 yX5_matches, .instanceMethod yX5_matches, .selects RX5 yX5_matches yX5_matches, .code yX5_matches cX5_matches 5 (some .boolean), .fieldLink RX5 13 "RelocatingPatchModel" "oldAddress" "[Z", .fieldLink RX5 20 "RelocatingPatchModel" "newAddress" "[Z", .fieldLink RX5 7 "RelocatingPatchModel" "oldValue" "[I", .fieldLink RX5 17 "RelocatingPatchModel" "newValues" "[I"] ++ wsX50)
def wsX5_takes : List Cond := .code yX5_takes cX5_takes 3 none :: ([.fieldLink RX5 38 "RelocatingPatchModel" "run" "[I", .fieldLink RX5 32 "RelocatingPatchModel" "blockAt" "[I", .fieldLink RX5 35 "RelocatingPatchModel" "isTaken" "[Z"] ++ wsX50)
def wsX5_numbers : List Cond := .code yX5_numbers cX5_numbers 4 none :: ([.fieldLink RX5 93 "RelocatingPatchModel" "blocks" "I", .fieldLink RX5 57 "RelocatingPatchModel" "news" "I", .fieldLink RX5 32 "RelocatingPatchModel" "blockAt" "[I", .fieldLink RX5 23 "RelocatingPatchModel" "oldStart" "[I", .fieldLink RX5 26 "RelocatingPatchModel" "newStart" "[I", .fieldLink RX5 29 "RelocatingPatchModel" "length" "[I"] ++ wsX50)
def wsX5_isBefore : List Cond := .code yX5_isBefore cX5_isBefore 3 (some .boolean) :: ([.fieldLink RX5 26 "RelocatingPatchModel" "newStart" "[I", .fieldLink RX5 23 "RelocatingPatchModel" "oldStart" "[I", .fieldLink RX5 29 "RelocatingPatchModel" "length" "[I"] ++ wsX50)
def wsX5_isReady : List Cond := .code yX5_isReady cX5_isReady 3 (some .boolean) :: ([.fieldLink RX5 93 "RelocatingPatchModel" "blocks" "I", .fieldLink RX5 44 "RelocatingPatchModel" "stateOf" "[I", .methodLink RX5 119 yX5_isBefore, .instanceMethod yX5_isBefore, .selects RX5 yX5_isBefore yX5_isBefore, .initialized RX5, .code yX5_isBefore cX5_isBefore 3 (some .boolean), .fieldLink RX5 26 "RelocatingPatchModel" "newStart" "[I", .fieldLink RX5 23 "RelocatingPatchModel" "oldStart" "[I", .fieldLink RX5 29 "RelocatingPatchModel" "length" "[I"] ++ wsX50)
def wsX5_firstReady : List Cond := .code yX5_firstReady cX5_firstReady 2 (some .int) :: ([.fieldLink RX5 93 "RelocatingPatchModel" "blocks" "I", .fieldLink RX5 44 "RelocatingPatchModel" "stateOf" "[I", .methodLink RX5 122 yX5_isReady, .instanceMethod yX5_isReady, .selects RX5 yX5_isReady yX5_isReady, .initialized RX5, .code yX5_isReady cX5_isReady 3 (some .boolean), .methodLink RX5 119 yX5_isBefore, .instanceMethod yX5_isBefore, .selects RX5 yX5_isBefore yX5_isBefore, .code yX5_isBefore cX5_isBefore 3 (some .boolean), .fieldLink RX5 26 "RelocatingPatchModel" "newStart" "[I", .fieldLink RX5 23 "RelocatingPatchModel" "oldStart" "[I", .fieldLink RX5 29 "RelocatingPatchModel" "length" "[I"] ++ wsX50)
def wsX5_shortest : List Cond := .code yX5_shortest cX5_shortest 3 (some .int) :: ([.fieldLink RX5 93 "RelocatingPatchModel" "blocks" "I", .fieldLink RX5 44 "RelocatingPatchModel" "stateOf" "[I", .fieldLink RX5 29 "RelocatingPatchModel" "length" "[I"] ++ wsX50)
def wsX5_orders : List Cond := .code yX5_orders cX5_orders 3 none :: ([.fieldLink RX5 125 "RelocatingPatchModel" "copies" "I", .fieldLink RX5 93 "RelocatingPatchModel" "blocks" "I", .fieldLink RX5 44 "RelocatingPatchModel" "stateOf" "[I", .fieldLink RX5 41 "RelocatingPatchModel" "copied" "[I", .methodLink RX5 128 yX5_firstReady, .instanceMethod yX5_firstReady, .selects RX5 yX5_firstReady yX5_firstReady, .initialized RX5, .code yX5_firstReady cX5_firstReady 2 (some .int), .methodLink RX5 122 yX5_isReady, .instanceMethod yX5_isReady, .selects RX5 yX5_isReady yX5_isReady, .code yX5_isReady cX5_isReady 3 (some .boolean), .methodLink RX5 119 yX5_isBefore, .instanceMethod yX5_isBefore, .selects RX5 yX5_isBefore yX5_isBefore, .code yX5_isBefore cX5_isBefore 3 (some .boolean), .fieldLink RX5 26 "RelocatingPatchModel" "newStart" "[I", .fieldLink RX5 23 "RelocatingPatchModel" "oldStart" "[I", .fieldLink RX5 29 "RelocatingPatchModel" "length" "[I", .methodLink RX5 131 yX5_shortest, .instanceMethod yX5_shortest, .selects RX5 yX5_shortest yX5_shortest, .code yX5_shortest cX5_shortest 3 (some .int)] ++ wsX50)
def wsX5_build_r1 : List Cond := [Cond.fieldLink RX5 32 "RelocatingPatchModel" "blockAt" "[I", Cond.fieldLink RX5 35 "RelocatingPatchModel" "isTaken" "[Z", Cond.fieldLink RX5 38 "RelocatingPatchModel" "run" "[I", Cond.fieldLink RX5 53 "RelocatingPatchModel" "isBuilt" "Z", Cond.fieldLink RX5 93 "RelocatingPatchModel" "blocks" "I", Cond.methodLink RX5 61 yX5_within, Cond.static yX5_within, Cond.initialized RX5, Cond.code yX5_within cX5_within 3 (some .boolean), Cond.methodLink RX5 79 yX5_longestRun, Cond.instanceMethod yX5_longestRun, Cond.selects RX5 yX5_longestRun yX5_longestRun, Cond.code yX5_longestRun cX5_longestRun 4 (some .int), Cond.fieldLink RX5 57 "RelocatingPatchModel" "news" "I", Cond.fieldLink RX5 65 "RelocatingPatchModel" "olds" "I", Cond.methodLink RX5 76 yX5_findsRuns, Cond.instanceMethod yX5_findsRuns, Cond.selects RX5 yX5_findsRuns yX5_findsRuns, Cond.code yX5_findsRuns cX5_findsRuns 4 none, Cond.methodLink RX5 72 yX5_matches, Cond.instanceMethod yX5_matches, Cond.selects RX5 yX5_matches yX5_matches, Cond.code yX5_matches cX5_matches 5 (some .boolean), Cond.fieldLink RX5 13 "RelocatingPatchModel" "oldAddress" "[Z"]
def wsX5_build_r2 : List Cond := [Cond.fieldLink RX5 20 "RelocatingPatchModel" "newAddress" "[Z", Cond.fieldLink RX5 7 "RelocatingPatchModel" "oldValue" "[I", Cond.fieldLink RX5 17 "RelocatingPatchModel" "newValues" "[I", Cond.methodLink RX5 83 yX5_takes, Cond.instanceMethod yX5_takes, Cond.selects RX5 yX5_takes yX5_takes, Cond.code yX5_takes cX5_takes 3 none, Cond.methodLink RX5 87 yX5_numbers, Cond.instanceMethod yX5_numbers, Cond.selects RX5 yX5_numbers yX5_numbers, Cond.code yX5_numbers cX5_numbers 4 none, Cond.fieldLink RX5 23 "RelocatingPatchModel" "oldStart" "[I", Cond.fieldLink RX5 26 "RelocatingPatchModel" "newStart" "[I", Cond.fieldLink RX5 29 "RelocatingPatchModel" "length" "[I", Cond.methodLink RX5 90 yX5_orders, Cond.instanceMethod yX5_orders, Cond.selects RX5 yX5_orders yX5_orders, Cond.code yX5_orders cX5_orders 3 none, Cond.fieldLink RX5 125 "RelocatingPatchModel" "copies" "I", Cond.fieldLink RX5 44 "RelocatingPatchModel" "stateOf" "[I", Cond.fieldLink RX5 41 "RelocatingPatchModel" "copied" "[I", Cond.methodLink RX5 128 yX5_firstReady, Cond.instanceMethod yX5_firstReady, Cond.selects RX5 yX5_firstReady yX5_firstReady]
def wsX5_build_r3 : List Cond := [Cond.code yX5_firstReady cX5_firstReady 2 (some .int), Cond.methodLink RX5 122 yX5_isReady, Cond.instanceMethod yX5_isReady, Cond.selects RX5 yX5_isReady yX5_isReady, Cond.code yX5_isReady cX5_isReady 3 (some .boolean), Cond.methodLink RX5 119 yX5_isBefore, Cond.instanceMethod yX5_isBefore, Cond.selects RX5 yX5_isBefore yX5_isBefore, Cond.code yX5_isBefore cX5_isBefore 3 (some .boolean), Cond.methodLink RX5 131 yX5_shortest, Cond.instanceMethod yX5_shortest, Cond.selects RX5 yX5_shortest yX5_shortest, Cond.code yX5_shortest cX5_shortest 3 (some .int)]
def wsX5_build : List Cond := .code yX5_build cX5_build 3 (some .int) :: ((wsX5_build_r1 ++ (wsX5_build_r2 ++ wsX5_build_r3)) ++ wsX50)
def wsX5_ofBlock : List Cond := .code yX5_ofBlock cX5_ofBlock 3 (some .int) :: ([.fieldLink RX5 53 "RelocatingPatchModel" "isBuilt" "Z", .fieldLink RX5 93 "RelocatingPatchModel" "blocks" "I", .methodLink RX5 61 yX5_within, .static yX5_within, .initialized RX5, .code yX5_within cX5_within 3 (some .boolean)] ++ wsX50)
def wsX5_blockOldStart : List Cond := .code yX5_blockOldStart cX5_blockOldStart 2 (some .int) :: ([.fieldLink RX5 23 "RelocatingPatchModel" "oldStart" "[I", .methodLink RX5 96 yX5_ofBlock, .instanceMethod yX5_ofBlock, .selects RX5 yX5_ofBlock yX5_ofBlock, .initialized RX5, .code yX5_ofBlock cX5_ofBlock 3 (some .int), .fieldLink RX5 53 "RelocatingPatchModel" "isBuilt" "Z", .fieldLink RX5 93 "RelocatingPatchModel" "blocks" "I", .methodLink RX5 61 yX5_within, .static yX5_within, .code yX5_within cX5_within 3 (some .boolean)] ++ wsX50)
def wsX5_blockNewStart : List Cond := .code yX5_blockNewStart cX5_blockNewStart 2 (some .int) :: ([.fieldLink RX5 26 "RelocatingPatchModel" "newStart" "[I", .methodLink RX5 96 yX5_ofBlock, .instanceMethod yX5_ofBlock, .selects RX5 yX5_ofBlock yX5_ofBlock, .initialized RX5, .code yX5_ofBlock cX5_ofBlock 3 (some .int), .fieldLink RX5 53 "RelocatingPatchModel" "isBuilt" "Z", .fieldLink RX5 93 "RelocatingPatchModel" "blocks" "I", .methodLink RX5 61 yX5_within, .static yX5_within, .code yX5_within cX5_within 3 (some .boolean)] ++ wsX50)
def wsX5_blockLength : List Cond := .code yX5_blockLength cX5_blockLength 2 (some .int) :: ([.fieldLink RX5 29 "RelocatingPatchModel" "length" "[I", .methodLink RX5 96 yX5_ofBlock, .instanceMethod yX5_ofBlock, .selects RX5 yX5_ofBlock yX5_ofBlock, .initialized RX5, .code yX5_ofBlock cX5_ofBlock 3 (some .int), .fieldLink RX5 53 "RelocatingPatchModel" "isBuilt" "Z", .fieldLink RX5 93 "RelocatingPatchModel" "blocks" "I", .methodLink RX5 61 yX5_within, .static yX5_within, .code yX5_within cX5_within 3 (some .boolean)] ++ wsX50)
def wsX5_blockOf : List Cond := .code yX5_blockOf cX5_blockOf 2 (some .int) :: ([.fieldLink RX5 53 "RelocatingPatchModel" "isBuilt" "Z", .fieldLink RX5 32 "RelocatingPatchModel" "blockAt" "[I", .methodLink RX5 68 yX5_isNew, .instanceMethod yX5_isNew, .selects RX5 yX5_isNew yX5_isNew, .initialized RX5, .code yX5_isNew cX5_isNew 2 (some .boolean), .fieldLink RX5 57 "RelocatingPatchModel" "news" "I", .methodLink RX5 61 yX5_within, .static yX5_within, .code yX5_within cX5_within 3 (some .boolean)] ++ wsX50)
def wsX5_predicts : List Cond := .code yX5_predicts cX5_predicts 5 (some .int) :: ([.fieldLink RX5 93 "RelocatingPatchModel" "blocks" "I", .fieldLink RX5 23 "RelocatingPatchModel" "oldStart" "[I", .fieldLink RX5 26 "RelocatingPatchModel" "newStart" "[I"] ++ wsX50)
def wsX5_predictedAddress : List Cond := .code yX5_predictedAddress cX5_predictedAddress 2 (some .int) :: ([.fieldLink RX5 53 "RelocatingPatchModel" "isBuilt" "Z", .methodLink RX5 61 yX5_within, .static yX5_within, .initialized RX5, .code yX5_within cX5_within 3 (some .boolean), .methodLink RX5 100 yX5_predicts, .instanceMethod yX5_predicts, .selects RX5 yX5_predicts yX5_predicts, .code yX5_predicts cX5_predicts 5 (some .int), .fieldLink RX5 93 "RelocatingPatchModel" "blocks" "I", .fieldLink RX5 23 "RelocatingPatchModel" "oldStart" "[I", .fieldLink RX5 26 "RelocatingPatchModel" "newStart" "[I"] ++ wsX50)
def wsX5_oldIndexOf : List Cond := .code yX5_oldIndexOf cX5_oldIndexOf 3 (some .int) :: ([.fieldLink RX5 32 "RelocatingPatchModel" "blockAt" "[I", .fieldLink RX5 23 "RelocatingPatchModel" "oldStart" "[I", .fieldLink RX5 26 "RelocatingPatchModel" "newStart" "[I"] ++ wsX50)
def wsX5_predictedAt : List Cond := .code yX5_predictedAt cX5_predictedAt 3 (some .int) :: ([.fieldLink RX5 13 "RelocatingPatchModel" "oldAddress" "[Z", .fieldLink RX5 7 "RelocatingPatchModel" "oldValue" "[I", .methodLink RX5 104 yX5_oldIndexOf, .instanceMethod yX5_oldIndexOf, .selects RX5 yX5_oldIndexOf yX5_oldIndexOf, .initialized RX5, .code yX5_oldIndexOf cX5_oldIndexOf 3 (some .int), .fieldLink RX5 32 "RelocatingPatchModel" "blockAt" "[I", .fieldLink RX5 23 "RelocatingPatchModel" "oldStart" "[I", .fieldLink RX5 26 "RelocatingPatchModel" "newStart" "[I", .methodLink RX5 100 yX5_predicts, .instanceMethod yX5_predicts, .selects RX5 yX5_predicts yX5_predicts, .code yX5_predicts cX5_predicts 5 (some .int), .fieldLink RX5 93 "RelocatingPatchModel" "blocks" "I"] ++ wsX50)
def wsX5_predictedValue_r1 : List Cond := [Cond.fieldLink RX5 53 "RelocatingPatchModel" "isBuilt" "Z", Cond.fieldLink RX5 32 "RelocatingPatchModel" "blockAt" "[I", Cond.methodLink RX5 68 yX5_isNew, Cond.instanceMethod yX5_isNew, Cond.selects RX5 yX5_isNew yX5_isNew, Cond.initialized RX5, Cond.code yX5_isNew cX5_isNew 2 (some .boolean), Cond.fieldLink RX5 57 "RelocatingPatchModel" "news" "I", Cond.methodLink RX5 61 yX5_within, Cond.static yX5_within, Cond.code yX5_within cX5_within 3 (some .boolean), Cond.methodLink RX5 107 yX5_predictedAt, Cond.instanceMethod yX5_predictedAt, Cond.selects RX5 yX5_predictedAt yX5_predictedAt, Cond.code yX5_predictedAt cX5_predictedAt 3 (some .int), Cond.fieldLink RX5 13 "RelocatingPatchModel" "oldAddress" "[Z", Cond.fieldLink RX5 7 "RelocatingPatchModel" "oldValue" "[I", Cond.methodLink RX5 104 yX5_oldIndexOf, Cond.instanceMethod yX5_oldIndexOf, Cond.selects RX5 yX5_oldIndexOf yX5_oldIndexOf, Cond.code yX5_oldIndexOf cX5_oldIndexOf 3 (some .int), Cond.fieldLink RX5 23 "RelocatingPatchModel" "oldStart" "[I", Cond.fieldLink RX5 26 "RelocatingPatchModel" "newStart" "[I", Cond.methodLink RX5 100 yX5_predicts]
def wsX5_predictedValue_r2 : List Cond := [Cond.instanceMethod yX5_predicts, Cond.selects RX5 yX5_predicts yX5_predicts, Cond.code yX5_predicts cX5_predicts 5 (some .int), Cond.fieldLink RX5 93 "RelocatingPatchModel" "blocks" "I"]
def wsX5_predictedValue : List Cond := .code yX5_predictedValue cX5_predictedValue 2 (some .int) :: ((wsX5_predictedValue_r1 ++ wsX5_predictedValue_r2) ++ wsX50)
def wsX5_isCorrected : List Cond := .code yX5_isCorrected cX5_isCorrected 2 (some .boolean) :: ([.fieldLink RX5 32 "RelocatingPatchModel" "blockAt" "[I", .fieldLink RX5 17 "RelocatingPatchModel" "newValues" "[I", .methodLink RX5 107 yX5_predictedAt, .instanceMethod yX5_predictedAt, .selects RX5 yX5_predictedAt yX5_predictedAt, .initialized RX5, .code yX5_predictedAt cX5_predictedAt 3 (some .int), .fieldLink RX5 13 "RelocatingPatchModel" "oldAddress" "[Z", .fieldLink RX5 7 "RelocatingPatchModel" "oldValue" "[I", .methodLink RX5 104 yX5_oldIndexOf, .instanceMethod yX5_oldIndexOf, .selects RX5 yX5_oldIndexOf yX5_oldIndexOf, .code yX5_oldIndexOf cX5_oldIndexOf 3 (some .int), .fieldLink RX5 23 "RelocatingPatchModel" "oldStart" "[I", .fieldLink RX5 26 "RelocatingPatchModel" "newStart" "[I", .methodLink RX5 100 yX5_predicts, .instanceMethod yX5_predicts, .selects RX5 yX5_predicts yX5_predicts, .code yX5_predicts cX5_predicts 5 (some .int), .fieldLink RX5 93 "RelocatingPatchModel" "blocks" "I"] ++ wsX50)
def wsX5_corrections_r1 : List Cond := [Cond.fieldLink RX5 57 "RelocatingPatchModel" "news" "I", Cond.methodLink RX5 110 yX5_isCorrected, Cond.instanceMethod yX5_isCorrected, Cond.selects RX5 yX5_isCorrected yX5_isCorrected, Cond.initialized RX5, Cond.code yX5_isCorrected cX5_isCorrected 2 (some .boolean), Cond.fieldLink RX5 32 "RelocatingPatchModel" "blockAt" "[I", Cond.fieldLink RX5 17 "RelocatingPatchModel" "newValues" "[I", Cond.methodLink RX5 107 yX5_predictedAt, Cond.instanceMethod yX5_predictedAt, Cond.selects RX5 yX5_predictedAt yX5_predictedAt, Cond.code yX5_predictedAt cX5_predictedAt 3 (some .int), Cond.fieldLink RX5 13 "RelocatingPatchModel" "oldAddress" "[Z", Cond.fieldLink RX5 7 "RelocatingPatchModel" "oldValue" "[I", Cond.methodLink RX5 104 yX5_oldIndexOf, Cond.instanceMethod yX5_oldIndexOf, Cond.selects RX5 yX5_oldIndexOf yX5_oldIndexOf, Cond.code yX5_oldIndexOf cX5_oldIndexOf 3 (some .int), Cond.fieldLink RX5 23 "RelocatingPatchModel" "oldStart" "[I", Cond.fieldLink RX5 26 "RelocatingPatchModel" "newStart" "[I", Cond.methodLink RX5 100 yX5_predicts, Cond.instanceMethod yX5_predicts, Cond.selects RX5 yX5_predicts yX5_predicts, Cond.code yX5_predicts cX5_predicts 5 (some .int)]
def wsX5_corrections_r2 : List Cond := [Cond.fieldLink RX5 93 "RelocatingPatchModel" "blocks" "I"]
def wsX5_corrections : List Cond := .code yX5_corrections cX5_corrections 3 (some .int) :: ((wsX5_corrections_r1 ++ wsX5_corrections_r2) ++ wsX50)
def wsX5_correctionCount_r1 : List Cond := [Cond.fieldLink RX5 53 "RelocatingPatchModel" "isBuilt" "Z", Cond.methodLink RX5 113 yX5_corrections, Cond.instanceMethod yX5_corrections, Cond.selects RX5 yX5_corrections yX5_corrections, Cond.initialized RX5, Cond.code yX5_corrections cX5_corrections 3 (some .int), Cond.fieldLink RX5 57 "RelocatingPatchModel" "news" "I", Cond.methodLink RX5 110 yX5_isCorrected, Cond.instanceMethod yX5_isCorrected, Cond.selects RX5 yX5_isCorrected yX5_isCorrected, Cond.code yX5_isCorrected cX5_isCorrected 2 (some .boolean), Cond.fieldLink RX5 32 "RelocatingPatchModel" "blockAt" "[I", Cond.fieldLink RX5 17 "RelocatingPatchModel" "newValues" "[I", Cond.methodLink RX5 107 yX5_predictedAt, Cond.instanceMethod yX5_predictedAt, Cond.selects RX5 yX5_predictedAt yX5_predictedAt, Cond.code yX5_predictedAt cX5_predictedAt 3 (some .int), Cond.fieldLink RX5 13 "RelocatingPatchModel" "oldAddress" "[Z", Cond.fieldLink RX5 7 "RelocatingPatchModel" "oldValue" "[I", Cond.methodLink RX5 104 yX5_oldIndexOf, Cond.instanceMethod yX5_oldIndexOf, Cond.selects RX5 yX5_oldIndexOf yX5_oldIndexOf, Cond.code yX5_oldIndexOf cX5_oldIndexOf 3 (some .int), Cond.fieldLink RX5 23 "RelocatingPatchModel" "oldStart" "[I"]
def wsX5_correctionCount_r2 : List Cond := [Cond.fieldLink RX5 26 "RelocatingPatchModel" "newStart" "[I", Cond.methodLink RX5 100 yX5_predicts, Cond.instanceMethod yX5_predicts, Cond.selects RX5 yX5_predicts yX5_predicts, Cond.code yX5_predicts cX5_predicts 5 (some .int), Cond.fieldLink RX5 93 "RelocatingPatchModel" "blocks" "I"]
def wsX5_correctionCount : List Cond := .code yX5_correctionCount cX5_correctionCount 1 (some .int) :: ((wsX5_correctionCount_r1 ++ wsX5_correctionCount_r2) ++ wsX50)
def wsX5_correctionIndex_r1 : List Cond := [Cond.fieldLink RX5 53 "RelocatingPatchModel" "isBuilt" "Z", Cond.fieldLink RX5 57 "RelocatingPatchModel" "news" "I", Cond.methodLink RX5 110 yX5_isCorrected, Cond.instanceMethod yX5_isCorrected, Cond.selects RX5 yX5_isCorrected yX5_isCorrected, Cond.initialized RX5, Cond.code yX5_isCorrected cX5_isCorrected 2 (some .boolean), Cond.fieldLink RX5 32 "RelocatingPatchModel" "blockAt" "[I", Cond.fieldLink RX5 17 "RelocatingPatchModel" "newValues" "[I", Cond.methodLink RX5 107 yX5_predictedAt, Cond.instanceMethod yX5_predictedAt, Cond.selects RX5 yX5_predictedAt yX5_predictedAt, Cond.code yX5_predictedAt cX5_predictedAt 3 (some .int), Cond.fieldLink RX5 13 "RelocatingPatchModel" "oldAddress" "[Z", Cond.fieldLink RX5 7 "RelocatingPatchModel" "oldValue" "[I", Cond.methodLink RX5 104 yX5_oldIndexOf, Cond.instanceMethod yX5_oldIndexOf, Cond.selects RX5 yX5_oldIndexOf yX5_oldIndexOf, Cond.code yX5_oldIndexOf cX5_oldIndexOf 3 (some .int), Cond.fieldLink RX5 23 "RelocatingPatchModel" "oldStart" "[I", Cond.fieldLink RX5 26 "RelocatingPatchModel" "newStart" "[I", Cond.methodLink RX5 100 yX5_predicts, Cond.instanceMethod yX5_predicts, Cond.selects RX5 yX5_predicts yX5_predicts]
def wsX5_correctionIndex_r2 : List Cond := [Cond.code yX5_predicts cX5_predicts 5 (some .int), Cond.fieldLink RX5 93 "RelocatingPatchModel" "blocks" "I"]
def wsX5_correctionIndex : List Cond := .code yX5_correctionIndex cX5_correctionIndex 4 (some .int) :: ((wsX5_correctionIndex_r1 ++ wsX5_correctionIndex_r2) ++ wsX50)
def wsX5_literals : List Cond := .code yX5_literals cX5_literals 3 (some .int) :: ([.fieldLink RX5 57 "RelocatingPatchModel" "news" "I", .fieldLink RX5 32 "RelocatingPatchModel" "blockAt" "[I"] ++ wsX50)
def wsX5_literalCount : List Cond := .code yX5_literalCount cX5_literalCount 1 (some .int) :: ([.fieldLink RX5 53 "RelocatingPatchModel" "isBuilt" "Z", .methodLink RX5 116 yX5_literals, .instanceMethod yX5_literals, .selects RX5 yX5_literals yX5_literals, .initialized RX5, .code yX5_literals cX5_literals 3 (some .int), .fieldLink RX5 57 "RelocatingPatchModel" "news" "I", .fieldLink RX5 32 "RelocatingPatchModel" "blockAt" "[I"] ++ wsX50)
def wsX5_patchSize_r1 : List Cond := [Cond.fieldLink RX5 53 "RelocatingPatchModel" "isBuilt" "Z", Cond.fieldLink RX5 93 "RelocatingPatchModel" "blocks" "I", Cond.methodLink RX5 116 yX5_literals, Cond.instanceMethod yX5_literals, Cond.selects RX5 yX5_literals yX5_literals, Cond.initialized RX5, Cond.code yX5_literals cX5_literals 3 (some .int), Cond.fieldLink RX5 57 "RelocatingPatchModel" "news" "I", Cond.fieldLink RX5 32 "RelocatingPatchModel" "blockAt" "[I", Cond.methodLink RX5 113 yX5_corrections, Cond.instanceMethod yX5_corrections, Cond.selects RX5 yX5_corrections yX5_corrections, Cond.code yX5_corrections cX5_corrections 3 (some .int), Cond.methodLink RX5 110 yX5_isCorrected, Cond.instanceMethod yX5_isCorrected, Cond.selects RX5 yX5_isCorrected yX5_isCorrected, Cond.code yX5_isCorrected cX5_isCorrected 2 (some .boolean), Cond.fieldLink RX5 17 "RelocatingPatchModel" "newValues" "[I", Cond.methodLink RX5 107 yX5_predictedAt, Cond.instanceMethod yX5_predictedAt, Cond.selects RX5 yX5_predictedAt yX5_predictedAt, Cond.code yX5_predictedAt cX5_predictedAt 3 (some .int), Cond.fieldLink RX5 13 "RelocatingPatchModel" "oldAddress" "[Z", Cond.fieldLink RX5 7 "RelocatingPatchModel" "oldValue" "[I"]
def wsX5_patchSize_r2 : List Cond := [Cond.methodLink RX5 104 yX5_oldIndexOf, Cond.instanceMethod yX5_oldIndexOf, Cond.selects RX5 yX5_oldIndexOf yX5_oldIndexOf, Cond.code yX5_oldIndexOf cX5_oldIndexOf 3 (some .int), Cond.fieldLink RX5 23 "RelocatingPatchModel" "oldStart" "[I", Cond.fieldLink RX5 26 "RelocatingPatchModel" "newStart" "[I", Cond.methodLink RX5 100 yX5_predicts, Cond.instanceMethod yX5_predicts, Cond.selects RX5 yX5_predicts yX5_predicts, Cond.code yX5_predicts cX5_predicts 5 (some .int)]
def wsX5_patchSize : List Cond := .code yX5_patchSize cX5_patchSize 1 (some .int) :: ((wsX5_patchSize_r1 ++ wsX5_patchSize_r2) ++ wsX50)
def wsX5_unpredictedSize : List Cond := .code yX5_unpredictedSize cX5_unpredictedSize 3 (some .int) :: ([.fieldLink RX5 53 "RelocatingPatchModel" "isBuilt" "Z", .fieldLink RX5 57 "RelocatingPatchModel" "news" "I", .fieldLink RX5 32 "RelocatingPatchModel" "blockAt" "[I", .fieldLink RX5 7 "RelocatingPatchModel" "oldValue" "[I", .fieldLink RX5 17 "RelocatingPatchModel" "newValues" "[I", .fieldLink RX5 93 "RelocatingPatchModel" "blocks" "I", .methodLink RX5 104 yX5_oldIndexOf, .instanceMethod yX5_oldIndexOf, .selects RX5 yX5_oldIndexOf yX5_oldIndexOf, .initialized RX5, .code yX5_oldIndexOf cX5_oldIndexOf 3 (some .int), .fieldLink RX5 23 "RelocatingPatchModel" "oldStart" "[I", .fieldLink RX5 26 "RelocatingPatchModel" "newStart" "[I", .methodLink RX5 116 yX5_literals, .instanceMethod yX5_literals, .selects RX5 yX5_literals yX5_literals, .code yX5_literals cX5_literals 3 (some .int)] ++ wsX50)
def wsX5_copyCount : List Cond := .code yX5_copyCount cX5_copyCount 1 (some .int) :: ([.fieldLink RX5 53 "RelocatingPatchModel" "isBuilt" "Z", .fieldLink RX5 125 "RelocatingPatchModel" "copies" "I"] ++ wsX50)
def wsX5_copyStep : List Cond := .code yX5_copyStep cX5_copyStep 2 (some .int) :: ([.fieldLink RX5 53 "RelocatingPatchModel" "isBuilt" "Z", .fieldLink RX5 125 "RelocatingPatchModel" "copies" "I", .fieldLink RX5 41 "RelocatingPatchModel" "copied" "[I", .methodLink RX5 61 yX5_within, .static yX5_within, .initialized RX5, .code yX5_within cX5_within 3 (some .boolean)] ++ wsX50)
def wsX5_isDropped : List Cond := .code yX5_isDropped cX5_isDropped 2 (some .int) :: ([.fieldLink RX5 53 "RelocatingPatchModel" "isBuilt" "Z", .fieldLink RX5 93 "RelocatingPatchModel" "blocks" "I", .fieldLink RX5 44 "RelocatingPatchModel" "stateOf" "[I", .methodLink RX5 61 yX5_within, .static yX5_within, .initialized RX5, .code yX5_within cX5_within 3 (some .boolean)] ++ wsX50)
def wsX5_isCopied : List Cond := .code yX5_isCopied cX5_isCopied 2 (some .boolean) :: ([.fieldLink RX5 32 "RelocatingPatchModel" "blockAt" "[I", .fieldLink RX5 44 "RelocatingPatchModel" "stateOf" "[I"] ++ wsX50)
def wsX5_inPlaceSize_r1 : List Cond := [Cond.fieldLink RX5 53 "RelocatingPatchModel" "isBuilt" "Z", Cond.fieldLink RX5 125 "RelocatingPatchModel" "copies" "I", Cond.fieldLink RX5 57 "RelocatingPatchModel" "news" "I", Cond.methodLink RX5 134 yX5_isCopied, Cond.instanceMethod yX5_isCopied, Cond.selects RX5 yX5_isCopied yX5_isCopied, Cond.initialized RX5, Cond.code yX5_isCopied cX5_isCopied 2 (some .boolean), Cond.fieldLink RX5 32 "RelocatingPatchModel" "blockAt" "[I", Cond.fieldLink RX5 44 "RelocatingPatchModel" "stateOf" "[I", Cond.methodLink RX5 110 yX5_isCorrected, Cond.instanceMethod yX5_isCorrected, Cond.selects RX5 yX5_isCorrected yX5_isCorrected, Cond.code yX5_isCorrected cX5_isCorrected 2 (some .boolean), Cond.fieldLink RX5 17 "RelocatingPatchModel" "newValues" "[I", Cond.methodLink RX5 107 yX5_predictedAt, Cond.instanceMethod yX5_predictedAt, Cond.selects RX5 yX5_predictedAt yX5_predictedAt, Cond.code yX5_predictedAt cX5_predictedAt 3 (some .int), Cond.fieldLink RX5 13 "RelocatingPatchModel" "oldAddress" "[Z", Cond.fieldLink RX5 7 "RelocatingPatchModel" "oldValue" "[I", Cond.methodLink RX5 104 yX5_oldIndexOf, Cond.instanceMethod yX5_oldIndexOf, Cond.selects RX5 yX5_oldIndexOf yX5_oldIndexOf]
def wsX5_inPlaceSize_r2 : List Cond := [Cond.code yX5_oldIndexOf cX5_oldIndexOf 3 (some .int), Cond.fieldLink RX5 23 "RelocatingPatchModel" "oldStart" "[I", Cond.fieldLink RX5 26 "RelocatingPatchModel" "newStart" "[I", Cond.methodLink RX5 100 yX5_predicts, Cond.instanceMethod yX5_predicts, Cond.selects RX5 yX5_predicts yX5_predicts, Cond.code yX5_predicts cX5_predicts 5 (some .int), Cond.fieldLink RX5 93 "RelocatingPatchModel" "blocks" "I"]
def wsX5_inPlaceSize : List Cond := .code yX5_inPlaceSize cX5_inPlaceSize 3 (some .int) :: ((wsX5_inPlaceSize_r1 ++ wsX5_inPlaceSize_r2) ++ wsX50)
def wsX5_plays : List Cond := .code yX5_plays cX5_plays 5 none :: ([.fieldLink RX5 47 "RelocatingPatchModel" "memory" "[I", .fieldLink RX5 65 "RelocatingPatchModel" "olds" "I", .fieldLink RX5 7 "RelocatingPatchModel" "oldValue" "[I", .fieldLink RX5 41 "RelocatingPatchModel" "copied" "[I", .fieldLink RX5 29 "RelocatingPatchModel" "length" "[I", .fieldLink RX5 50 "RelocatingPatchModel" "buffer" "[I", .fieldLink RX5 23 "RelocatingPatchModel" "oldStart" "[I", .fieldLink RX5 26 "RelocatingPatchModel" "newStart" "[I"] ++ wsX50)
def wsX5_memoryAfter : List Cond := .code yX5_memoryAfter cX5_memoryAfter 3 (some .int) :: ([.fieldLink RX5 53 "RelocatingPatchModel" "isBuilt" "Z", .fieldLink RX5 125 "RelocatingPatchModel" "copies" "I", .fieldLink RX5 65 "RelocatingPatchModel" "olds" "I", .fieldLink RX5 57 "RelocatingPatchModel" "news" "I", .fieldLink RX5 47 "RelocatingPatchModel" "memory" "[I", .methodLink RX5 61 yX5_within, .static yX5_within, .initialized RX5, .code yX5_within cX5_within 3 (some .boolean), .methodLink RX5 137 yX5_plays, .instanceMethod yX5_plays, .selects RX5 yX5_plays yX5_plays, .code yX5_plays cX5_plays 5 none, .fieldLink RX5 7 "RelocatingPatchModel" "oldValue" "[I", .fieldLink RX5 41 "RelocatingPatchModel" "copied" "[I", .fieldLink RX5 29 "RelocatingPatchModel" "length" "[I", .fieldLink RX5 50 "RelocatingPatchModel" "buffer" "[I", .fieldLink RX5 23 "RelocatingPatchModel" "oldStart" "[I", .fieldLink RX5 26 "RelocatingPatchModel" "newStart" "[I"] ++ wsX50)
def wsX5_patchedValue_r1 : List Cond := [Cond.fieldLink RX5 53 "RelocatingPatchModel" "isBuilt" "Z", Cond.fieldLink RX5 17 "RelocatingPatchModel" "newValues" "[I", Cond.fieldLink RX5 125 "RelocatingPatchModel" "copies" "I", Cond.fieldLink RX5 13 "RelocatingPatchModel" "oldAddress" "[Z", Cond.fieldLink RX5 47 "RelocatingPatchModel" "memory" "[I", Cond.methodLink RX5 68 yX5_isNew, Cond.instanceMethod yX5_isNew, Cond.selects RX5 yX5_isNew yX5_isNew, Cond.initialized RX5, Cond.code yX5_isNew cX5_isNew 2 (some .boolean), Cond.fieldLink RX5 57 "RelocatingPatchModel" "news" "I", Cond.methodLink RX5 61 yX5_within, Cond.static yX5_within, Cond.code yX5_within cX5_within 3 (some .boolean), Cond.methodLink RX5 134 yX5_isCopied, Cond.instanceMethod yX5_isCopied, Cond.selects RX5 yX5_isCopied yX5_isCopied, Cond.code yX5_isCopied cX5_isCopied 2 (some .boolean), Cond.fieldLink RX5 32 "RelocatingPatchModel" "blockAt" "[I", Cond.fieldLink RX5 44 "RelocatingPatchModel" "stateOf" "[I", Cond.methodLink RX5 110 yX5_isCorrected, Cond.instanceMethod yX5_isCorrected, Cond.selects RX5 yX5_isCorrected yX5_isCorrected, Cond.code yX5_isCorrected cX5_isCorrected 2 (some .boolean)]
def wsX5_patchedValue_r2 : List Cond := [Cond.methodLink RX5 107 yX5_predictedAt, Cond.instanceMethod yX5_predictedAt, Cond.selects RX5 yX5_predictedAt yX5_predictedAt, Cond.code yX5_predictedAt cX5_predictedAt 3 (some .int), Cond.fieldLink RX5 7 "RelocatingPatchModel" "oldValue" "[I", Cond.methodLink RX5 104 yX5_oldIndexOf, Cond.instanceMethod yX5_oldIndexOf, Cond.selects RX5 yX5_oldIndexOf yX5_oldIndexOf, Cond.code yX5_oldIndexOf cX5_oldIndexOf 3 (some .int), Cond.fieldLink RX5 23 "RelocatingPatchModel" "oldStart" "[I", Cond.fieldLink RX5 26 "RelocatingPatchModel" "newStart" "[I", Cond.methodLink RX5 100 yX5_predicts, Cond.instanceMethod yX5_predicts, Cond.selects RX5 yX5_predicts yX5_predicts, Cond.code yX5_predicts cX5_predicts 5 (some .int), Cond.fieldLink RX5 93 "RelocatingPatchModel" "blocks" "I", Cond.methodLink RX5 137 yX5_plays, Cond.instanceMethod yX5_plays, Cond.selects RX5 yX5_plays yX5_plays, Cond.code yX5_plays cX5_plays 5 none, Cond.fieldLink RX5 65 "RelocatingPatchModel" "olds" "I", Cond.fieldLink RX5 41 "RelocatingPatchModel" "copied" "[I", Cond.fieldLink RX5 29 "RelocatingPatchModel" "length" "[I", Cond.fieldLink RX5 50 "RelocatingPatchModel" "buffer" "[I"]
def wsX5_patchedValue : List Cond := .code yX5_patchedValue cX5_patchedValue 2 (some .int) :: ((wsX5_patchedValue_r1 ++ wsX5_patchedValue_r2) ++ wsX50)
def wsJ9_max_7cf53 : List Cond := .code yJ9_max_7cf53 cJ9_max_7cf53 2 (some .int) :: ([])
def wsL_law_r1 : List Cond := [Cond.classLink RL 7 RX4, Cond.instantiable RX4 6, Cond.initialized RX4, Cond.classLink RL 10 RX5, Cond.instantiable RX5 19, Cond.initialized RX5, Cond.methodLink RL 9 yX4_init, Cond.instanceMethod yX4_init, Cond.code yX4_init cX4_init 1 none, Cond.methodLink RX4 1 objectInit, Cond.instanceMethod objectInit, Cond.code objectInit ⟨#[0xb1]⟩ 1 none, Cond.classLink RX4 7 RX3, Cond.instantiable RX3 3, Cond.initialized RX3, Cond.fieldLink RX4 10 "RelocatingPatch" "oldImage" "LRelocatingPatch$Image;", Cond.fieldLink RX4 16 "RelocatingPatch" "newImage" "LRelocatingPatch$Image;", Cond.classLink RX4 19 RX1, Cond.instantiable RX1 4, Cond.initialized RX1, Cond.fieldLink RX4 22 "RelocatingPatch" "blocks" "LRelocatingPatch$Blocks;", Cond.classLink RX4 26 RX0, Cond.instantiable RX0 6, Cond.initialized RX0]
def wsL_law_r2 : List Cond := [Cond.fieldLink RX4 29 "RelocatingPatch" "aligner" "LRelocatingPatch$Aligner;", Cond.classLink RX4 33 RX2, Cond.instantiable RX2 4, Cond.initialized RX2, Cond.fieldLink RX4 36 "RelocatingPatch" "copyOrder" "LRelocatingPatch$CopyOrder;", Cond.fieldLink RX4 40 "RelocatingPatch" "built" "Z", Cond.methodLink RX4 9 yX3_init, Cond.instanceMethod yX3_init, Cond.code yX3_init cX3_init 1 none, Cond.methodLink RX3 3 objectInit, Cond.arrayClass .int, Cond.fieldLink RX3 9 "RelocatingPatch$Image" "values" "[I", Cond.arrayClass .boolean, Cond.fieldLink RX3 15 "RelocatingPatch$Image" "addresses" "[Z", Cond.fieldLink RX3 19 "RelocatingPatch$Image" "size" "I", Cond.methodLink RX4 21 yX1_init, Cond.instanceMethod yX1_init, Cond.code yX1_init cX1_init 1 none, Cond.methodLink RX1 3 objectInit, Cond.fieldLink RX1 9 "RelocatingPatch$Blocks" "oldStarts" "[I", Cond.fieldLink RX1 15 "RelocatingPatch$Blocks" "newStarts" "[I", Cond.fieldLink RX1 18 "RelocatingPatch$Blocks" "lengths" "[I", Cond.fieldLink RX1 21 "RelocatingPatch$Blocks" "size" "I", Cond.methodLink RX4 28 yX0_init]
def wsL_law_r3 : List Cond := [Cond.instanceMethod yX0_init, Cond.code yX0_init cX0_init 1 none, Cond.methodLink RX0 3 objectInit, Cond.fieldLink RX0 9 "RelocatingPatch$Aligner" "oldTaken" "[Z", Cond.fieldLink RX0 15 "RelocatingPatch$Aligner" "newTaken" "[Z", Cond.fieldLink RX0 18 "RelocatingPatch$Aligner" "runs" "[I", Cond.fieldLink RX0 22 "RelocatingPatch$Aligner" "bestOld" "I", Cond.fieldLink RX0 26 "RelocatingPatch$Aligner" "bestNew" "I", Cond.fieldLink RX0 29 "RelocatingPatch$Aligner" "bestLength" "I", Cond.methodLink RX4 35 yX2_init, Cond.instanceMethod yX2_init, Cond.code yX2_init cX2_init 1 none, Cond.methodLink RX2 3 objectInit, Cond.fieldLink RX2 9 "RelocatingPatch$CopyOrder" "order" "[I", Cond.fieldLink RX2 15 "RelocatingPatch$CopyOrder" "waiting" "[Z", Cond.fieldLink RX2 19 "RelocatingPatch$CopyOrder" "dropped" "[Z", Cond.fieldLink RX2 22 "RelocatingPatch$CopyOrder" "steps" "I", Cond.methodLink RL 12 yX5_init, Cond.instanceMethod yX5_init, Cond.code yX5_init cX5_init 1 none, Cond.methodLink RX5 1 objectInit, Cond.fieldLink RX5 7 "RelocatingPatchModel" "oldValue" "[I", Cond.fieldLink RX5 13 "RelocatingPatchModel" "oldAddress" "[Z", Cond.fieldLink RX5 17 "RelocatingPatchModel" "newValues" "[I"]
def wsL_law_r4 : List Cond := [Cond.fieldLink RX5 20 "RelocatingPatchModel" "newAddress" "[Z", Cond.fieldLink RX5 23 "RelocatingPatchModel" "oldStart" "[I", Cond.fieldLink RX5 26 "RelocatingPatchModel" "newStart" "[I", Cond.fieldLink RX5 29 "RelocatingPatchModel" "length" "[I", Cond.fieldLink RX5 32 "RelocatingPatchModel" "blockAt" "[I", Cond.fieldLink RX5 35 "RelocatingPatchModel" "isTaken" "[Z", Cond.fieldLink RX5 38 "RelocatingPatchModel" "run" "[I", Cond.fieldLink RX5 41 "RelocatingPatchModel" "copied" "[I", Cond.fieldLink RX5 44 "RelocatingPatchModel" "stateOf" "[I", Cond.fieldLink RX5 47 "RelocatingPatchModel" "memory" "[I", Cond.fieldLink RX5 50 "RelocatingPatchModel" "buffer" "[I", Cond.fieldLink RX5 53 "RelocatingPatchModel" "isBuilt" "Z", Cond.methodLink RL 13 yX4_appendOld, Cond.instanceMethod yX4_appendOld, Cond.selects RX4 yX4_appendOld yX4_appendOld, Cond.code yX4_appendOld cX4_appendOld 3 (some .int), Cond.methodLink RX4 44 yX4_append, Cond.instanceMethod yX4_append, Cond.selects RX4 yX4_append yX4_append, Cond.code yX4_append cX4_append 4 (some .int), Cond.methodLink RX4 52 yX4_isValue, Cond.static yX4_isValue, Cond.code yX4_isValue cX4_isValue 1 (some .boolean), Cond.methodLink RX4 70 yX3_isFull]
def wsL_law_r5 : List Cond := [Cond.instanceMethod yX3_isFull, Cond.selects RX3 yX3_isFull yX3_isFull, Cond.code yX3_isFull cX3_isFull 1 (some .boolean), Cond.methodLink RX4 74 yX3_add, Cond.instanceMethod yX3_add, Cond.selects RX3 yX3_add yX3_add, Cond.code yX3_add cX3_add 3 none, Cond.methodLink RX3 27 yX3_isFull, Cond.methodLink RX4 63 yX3_size, Cond.instanceMethod yX3_size, Cond.selects RX3 yX3_size yX3_size, Cond.code yX3_size cX3_size 1 (some .int), Cond.methodLink RL 17 yX5_appendOld, Cond.instanceMethod yX5_appendOld, Cond.selects RX5 yX5_appendOld yX5_appendOld, Cond.code yX5_appendOld cX5_appendOld 3 (some .int), Cond.fieldLink RX5 65 "RelocatingPatchModel" "olds" "I", Cond.methodLink RX5 61 yX5_within, Cond.static yX5_within, Cond.code yX5_within cX5_within 3 (some .boolean), Cond.methodLink RL 18 yX4_appendNew, Cond.instanceMethod yX4_appendNew, Cond.selects RX4 yX4_appendNew yX4_appendNew, Cond.code yX4_appendNew cX4_appendNew 3 (some .int)]
def wsL_law_r6 : List Cond := [Cond.methodLink RL 21 yX5_appendNew, Cond.instanceMethod yX5_appendNew, Cond.selects RX5 yX5_appendNew yX5_appendNew, Cond.code yX5_appendNew cX5_appendNew 3 (some .int), Cond.fieldLink RX5 57 "RelocatingPatchModel" "news" "I", Cond.methodLink RL 22 yX4_setNew, Cond.instanceMethod yX4_setNew, Cond.selects RX4 yX4_setNew yX4_setNew, Cond.code yX4_setNew cX4_setNew 4 (some .int), Cond.methodLink RX4 48 yX3_holds, Cond.instanceMethod yX3_holds, Cond.selects RX3 yX3_holds yX3_holds, Cond.code yX3_holds cX3_holds 2 (some .boolean), Cond.methodLink RX4 55 yX3_valueAt, Cond.instanceMethod yX3_valueAt, Cond.selects RX3 yX3_valueAt yX3_valueAt, Cond.code yX3_valueAt cX3_valueAt 2 (some .int), Cond.methodLink RX3 23 yX3_holds, Cond.methodLink RX4 59 yX3_replace, Cond.instanceMethod yX3_replace, Cond.selects RX3 yX3_replace yX3_replace, Cond.code yX3_replace cX3_replace 3 none, Cond.methodLink RL 26 yX5_setNew, Cond.instanceMethod yX5_setNew]
def wsL_law_r7 : List Cond := [Cond.selects RX5 yX5_setNew yX5_setNew, Cond.code yX5_setNew cX5_setNew 4 (some .int), Cond.methodLink RX5 68 yX5_isNew, Cond.instanceMethod yX5_isNew, Cond.selects RX5 yX5_isNew yX5_isNew, Cond.code yX5_isNew cX5_isNew 2 (some .boolean), Cond.methodLink RL 27 yX4_clear, Cond.instanceMethod yX4_clear, Cond.selects RX4 yX4_clear yX4_clear, Cond.code yX4_clear cX4_clear 2 (some .int), Cond.methodLink RX4 67 yX3_removeAll, Cond.instanceMethod yX3_removeAll, Cond.selects RX3 yX3_removeAll yX3_removeAll, Cond.code yX3_removeAll cX3_removeAll 1 none, Cond.methodLink RL 31 yX5_clear, Cond.instanceMethod yX5_clear, Cond.selects RX5 yX5_clear yX5_clear, Cond.code yX5_clear cX5_clear 2 (some .int), Cond.methodLink RL 32 yX4_oldLength, Cond.instanceMethod yX4_oldLength, Cond.selects RX4 yX4_oldLength yX4_oldLength, Cond.code yX4_oldLength cX4_oldLength 1 (some .int), Cond.methodLink RL 35 yX5_oldLength, Cond.instanceMethod yX5_oldLength]
def wsL_law_r8 : List Cond := [Cond.selects RX5 yX5_oldLength yX5_oldLength, Cond.code yX5_oldLength cX5_oldLength 1 (some .int), Cond.methodLink RL 36 yX4_newLength, Cond.instanceMethod yX4_newLength, Cond.selects RX4 yX4_newLength yX4_newLength, Cond.code yX4_newLength cX4_newLength 1 (some .int), Cond.methodLink RL 39 yX5_newLength, Cond.instanceMethod yX5_newLength, Cond.selects RX5 yX5_newLength yX5_newLength, Cond.code yX5_newLength cX5_newLength 1 (some .int), Cond.methodLink RL 40 yX4_newValue, Cond.instanceMethod yX4_newValue, Cond.selects RX4 yX4_newValue yX4_newValue, Cond.code yX4_newValue cX4_newValue 2 (some .int), Cond.methodLink RL 44 yX5_newValue, Cond.instanceMethod yX5_newValue, Cond.selects RX5 yX5_newValue yX5_newValue, Cond.code yX5_newValue cX5_newValue 2 (some .int), Cond.methodLink RL 45 yX4_build, Cond.instanceMethod yX4_build, Cond.selects RX4 yX4_build yX4_build, Cond.code yX4_build cX4_build 2 (some .int), Cond.methodLink RX4 78 yX0_align, Cond.instanceMethod yX0_align]
def wsL_law_r9 : List Cond := [Cond.selects RX0 yX0_align yX0_align, Cond.code yX0_align cX0_align 6 none, Cond.methodLink RX0 32 yX1_removeAll, Cond.instanceMethod yX1_removeAll, Cond.selects RX1 yX1_removeAll yX1_removeAll, Cond.code yX1_removeAll cX1_removeAll 1 none, Cond.methodLink RX0 37 yX0_freeAllWords, Cond.instanceMethod yX0_freeAllWords, Cond.selects RX0 yX0_freeAllWords yX0_freeAllWords, Cond.code yX0_freeAllWords cX0_freeAllWords 2 none, Cond.methodLink RX0 40 yX0_findLongestRun, Cond.instanceMethod yX0_findLongestRun, Cond.selects RX0 yX0_findLongestRun yX0_findLongestRun, Cond.code yX0_findLongestRun cX0_findLongestRun 4 none, Cond.methodLink RX0 51 yX3_size, Cond.methodLink RX0 57 yX0_extendRuns, Cond.instanceMethod yX0_extendRuns, Cond.selects RX0 yX0_extendRuns yX0_extendRuns, Cond.code yX0_extendRuns cX0_extendRuns 7 none, Cond.methodLink RX0 61 yX0_isFree, Cond.instanceMethod yX0_isFree, Cond.selects RX0 yX0_isFree yX0_isFree, Cond.code yX0_isFree cX0_isFree 3 (some .boolean), Cond.methodLink RX0 65 yX0_wordsMatch]
def wsL_law_r10 : List Cond := [Cond.static yX0_wordsMatch, Cond.code yX0_wordsMatch cX0_wordsMatch 5 (some .boolean), Cond.methodLink RX0 72 yX3_isAddress, Cond.instanceMethod yX3_isAddress, Cond.selects RX3 yX3_isAddress yX3_isAddress, Cond.code yX3_isAddress cX3_isAddress 2 (some .boolean), Cond.methodLink RX0 76 yX3_valueAt, Cond.methodLink RX0 69 yX0_isBetter, Cond.instanceMethod yX0_isBetter, Cond.selects RX0 yX0_isBetter yX0_isBetter, Cond.code yX0_isBetter cX0_isBetter 3 (some .boolean), Cond.methodLink RX0 44 yX0_takeLongestRun, Cond.instanceMethod yX0_takeLongestRun, Cond.selects RX0 yX0_takeLongestRun yX0_takeLongestRun, Cond.code yX0_takeLongestRun cX0_takeLongestRun 2 none, Cond.methodLink RX0 47 yX1_insert, Cond.instanceMethod yX1_insert, Cond.selects RX1 yX1_insert yX1_insert, Cond.code yX1_insert cX1_insert 5 none, Cond.methodLink RX4 82 yX2_arrange, Cond.instanceMethod yX2_arrange, Cond.selects RX2 yX2_arrange yX2_arrange, Cond.code yX2_arrange cX2_arrange 4 none, Cond.methodLink RX2 44 yX1_has]
def wsL_law_r11 : List Cond := [Cond.instanceMethod yX1_has, Cond.selects RX1 yX1_has yX1_has, Cond.code yX1_has cX1_has 2 (some .boolean), Cond.methodLink RX2 47 yX1_size, Cond.instanceMethod yX1_size, Cond.selects RX1 yX1_size yX1_size, Cond.code yX1_size cX1_size 1 (some .int), Cond.methodLink RX2 51 yX2_firstReady, Cond.instanceMethod yX2_firstReady, Cond.selects RX2 yX2_firstReady yX2_firstReady, Cond.code yX2_firstReady cX2_firstReady 3 (some .int), Cond.methodLink RX2 65 yX2_waits, Cond.instanceMethod yX2_waits, Cond.selects RX2 yX2_waits yX2_waits, Cond.code yX2_waits cX2_waits 2 (some .boolean), Cond.methodLink RX2 68 yX2_isReady, Cond.instanceMethod yX2_isReady, Cond.selects RX2 yX2_isReady yX2_isReady, Cond.code yX2_isReady cX2_isReady 4 (some .boolean), Cond.methodLink RX2 72 yX1_mustGoBefore, Cond.instanceMethod yX1_mustGoBefore, Cond.selects RX1 yX1_mustGoBefore yX1_mustGoBefore, Cond.code yX1_mustGoBefore cX1_mustGoBefore 3 (some .boolean), Cond.methodLink RX1 29 yX1_newStart]
def wsL_law_r12 : List Cond := [Cond.instanceMethod yX1_newStart, Cond.selects RX1 yX1_newStart yX1_newStart, Cond.code yX1_newStart cX1_newStart 2 (some .int), Cond.methodLink RX1 25 yX1_has, Cond.methodLink RX1 33 yX1_oldStart, Cond.instanceMethod yX1_oldStart, Cond.selects RX1 yX1_oldStart yX1_oldStart, Cond.code yX1_oldStart cX1_oldStart 2 (some .int), Cond.methodLink RX1 36 yX1_length, Cond.instanceMethod yX1_length, Cond.selects RX1 yX1_length yX1_length, Cond.code yX1_length cX1_length 2 (some .int), Cond.methodLink RX2 55 yX2_copy, Cond.instanceMethod yX2_copy, Cond.selects RX2 yX2_copy yX2_copy, Cond.code yX2_copy cX2_copy 2 none, Cond.methodLink RX2 59 yX2_shortestWaiting, Cond.instanceMethod yX2_shortestWaiting, Cond.selects RX2 yX2_shortestWaiting yX2_shortestWaiting, Cond.code yX2_shortestWaiting cX2_shortestWaiting 4 (some .int), Cond.methodLink RX2 75 yX1_length, Cond.methodLink RX2 62 yX2_drop, Cond.instanceMethod yX2_drop, Cond.selects RX2 yX2_drop yX2_drop]
def wsL_law_r13 : List Cond := [Cond.code yX2_drop cX2_drop 2 none, Cond.methodLink RX4 86 yX1_size, Cond.methodLink RL 48 yX5_build, Cond.instanceMethod yX5_build, Cond.selects RX5 yX5_build yX5_build, Cond.code yX5_build cX5_build 3 (some .int), Cond.fieldLink RX5 93 "RelocatingPatchModel" "blocks" "I", Cond.methodLink RX5 79 yX5_longestRun, Cond.instanceMethod yX5_longestRun, Cond.selects RX5 yX5_longestRun yX5_longestRun, Cond.code yX5_longestRun cX5_longestRun 4 (some .int), Cond.methodLink RX5 76 yX5_findsRuns, Cond.instanceMethod yX5_findsRuns, Cond.selects RX5 yX5_findsRuns yX5_findsRuns, Cond.code yX5_findsRuns cX5_findsRuns 4 none, Cond.methodLink RX5 72 yX5_matches, Cond.instanceMethod yX5_matches, Cond.selects RX5 yX5_matches yX5_matches, Cond.code yX5_matches cX5_matches 5 (some .boolean), Cond.methodLink RX5 83 yX5_takes, Cond.instanceMethod yX5_takes, Cond.selects RX5 yX5_takes yX5_takes, Cond.code yX5_takes cX5_takes 3 none, Cond.methodLink RX5 87 yX5_numbers]
def wsL_law_r14 : List Cond := [Cond.instanceMethod yX5_numbers, Cond.selects RX5 yX5_numbers yX5_numbers, Cond.code yX5_numbers cX5_numbers 4 none, Cond.methodLink RX5 90 yX5_orders, Cond.instanceMethod yX5_orders, Cond.selects RX5 yX5_orders yX5_orders, Cond.code yX5_orders cX5_orders 3 none, Cond.fieldLink RX5 125 "RelocatingPatchModel" "copies" "I", Cond.methodLink RX5 128 yX5_firstReady, Cond.instanceMethod yX5_firstReady, Cond.selects RX5 yX5_firstReady yX5_firstReady, Cond.code yX5_firstReady cX5_firstReady 2 (some .int), Cond.methodLink RX5 122 yX5_isReady, Cond.instanceMethod yX5_isReady, Cond.selects RX5 yX5_isReady yX5_isReady, Cond.code yX5_isReady cX5_isReady 3 (some .boolean), Cond.methodLink RX5 119 yX5_isBefore, Cond.instanceMethod yX5_isBefore, Cond.selects RX5 yX5_isBefore yX5_isBefore, Cond.code yX5_isBefore cX5_isBefore 3 (some .boolean), Cond.methodLink RX5 131 yX5_shortest, Cond.instanceMethod yX5_shortest, Cond.selects RX5 yX5_shortest yX5_shortest, Cond.code yX5_shortest cX5_shortest 3 (some .int)]
def wsL_law_r15 : List Cond := [Cond.methodLink RL 49 yX4_blockOldStart, Cond.instanceMethod yX4_blockOldStart, Cond.selects RX4 yX4_blockOldStart yX4_blockOldStart, Cond.code yX4_blockOldStart cX4_blockOldStart 3 (some .int), Cond.methodLink RX4 87 yX4_blockError, Cond.instanceMethod yX4_blockError, Cond.selects RX4 yX4_blockError yX4_blockError, Cond.code yX4_blockError cX4_blockError 2 (some .int), Cond.methodLink RX4 105 yX1_has, Cond.methodLink RX4 90 yX1_oldStart, Cond.methodLink RL 52 yX5_blockOldStart, Cond.instanceMethod yX5_blockOldStart, Cond.selects RX5 yX5_blockOldStart yX5_blockOldStart, Cond.code yX5_blockOldStart cX5_blockOldStart 2 (some .int), Cond.methodLink RX5 96 yX5_ofBlock, Cond.instanceMethod yX5_ofBlock, Cond.selects RX5 yX5_ofBlock yX5_ofBlock, Cond.code yX5_ofBlock cX5_ofBlock 3 (some .int), Cond.methodLink RL 53 yX4_blockNewStart, Cond.instanceMethod yX4_blockNewStart, Cond.selects RX4 yX4_blockNewStart yX4_blockNewStart, Cond.code yX4_blockNewStart cX4_blockNewStart 3 (some .int), Cond.methodLink RX4 93 yX1_newStart, Cond.methodLink RL 56 yX5_blockNewStart]
def wsL_law_r16 : List Cond := [Cond.instanceMethod yX5_blockNewStart, Cond.selects RX5 yX5_blockNewStart yX5_blockNewStart, Cond.code yX5_blockNewStart cX5_blockNewStart 2 (some .int), Cond.methodLink RL 57 yX4_blockLength, Cond.instanceMethod yX4_blockLength, Cond.selects RX4 yX4_blockLength yX4_blockLength, Cond.code yX4_blockLength cX4_blockLength 3 (some .int), Cond.methodLink RX4 96 yX1_length, Cond.methodLink RL 60 yX5_blockLength, Cond.instanceMethod yX5_blockLength, Cond.selects RX5 yX5_blockLength yX5_blockLength, Cond.code yX5_blockLength cX5_blockLength 2 (some .int), Cond.methodLink RL 61 yX4_blockOf, Cond.instanceMethod yX4_blockOf, Cond.selects RX4 yX4_blockOf yX4_blockOf, Cond.code yX4_blockOf cX4_blockOf 4 (some .int), Cond.methodLink RX4 99 yX4_newWordError, Cond.instanceMethod yX4_newWordError, Cond.selects RX4 yX4_newWordError yX4_newWordError, Cond.code yX4_newWordError cX4_newWordError 2 (some .int), Cond.methodLink RX4 102 yX1_withNewIndex, Cond.instanceMethod yX1_withNewIndex, Cond.selects RX1 yX1_withNewIndex yX1_withNewIndex, Cond.code yX1_withNewIndex cX1_withNewIndex 3 (some .int)]
def wsL_law_r17 : List Cond := [Cond.methodLink RX1 39 yX1_covers, Cond.instanceMethod yX1_covers, Cond.selects RX1 yX1_covers yX1_covers, Cond.code yX1_covers cX1_covers 4 (some .boolean), Cond.methodLink RL 64 yX5_blockOf, Cond.instanceMethod yX5_blockOf, Cond.selects RX5 yX5_blockOf yX5_blockOf, Cond.code yX5_blockOf cX5_blockOf 2 (some .int), Cond.methodLink RL 65 yX4_predictedAddress, Cond.instanceMethod yX4_predictedAddress, Cond.selects RX4 yX4_predictedAddress yX4_predictedAddress, Cond.code yX4_predictedAddress cX4_predictedAddress 2 (some .int), Cond.methodLink RX4 108 yX1_moved, Cond.instanceMethod yX1_moved, Cond.selects RX1 yX1_moved yX1_moved, Cond.code yX1_moved cX1_moved 5 (some .int), Cond.methodLink RL 68 yX5_predictedAddress, Cond.instanceMethod yX5_predictedAddress, Cond.selects RX5 yX5_predictedAddress yX5_predictedAddress, Cond.code yX5_predictedAddress cX5_predictedAddress 2 (some .int), Cond.methodLink RX5 100 yX5_predicts, Cond.instanceMethod yX5_predicts, Cond.selects RX5 yX5_predicts yX5_predicts, Cond.code yX5_predicts cX5_predicts 5 (some .int)]
def wsL_law_r18 : List Cond := [Cond.methodLink RL 69 yX4_predictedValue, Cond.instanceMethod yX4_predictedValue, Cond.selects RX4 yX4_predictedValue yX4_predictedValue, Cond.code yX4_predictedValue cX4_predictedValue 4 (some .int), Cond.methodLink RX4 111 yX4_prediction, Cond.instanceMethod yX4_prediction, Cond.selects RX4 yX4_prediction yX4_prediction, Cond.code yX4_prediction cX4_prediction 5 (some .int), Cond.methodLink RX4 130 yX1_oldIndex, Cond.instanceMethod yX1_oldIndex, Cond.selects RX1 yX1_oldIndex yX1_oldIndex, Cond.code yX1_oldIndex cX1_oldIndex 3 (some .int), Cond.methodLink RX4 133 yX3_isAddress, Cond.methodLink RL 72 yX5_predictedValue, Cond.instanceMethod yX5_predictedValue, Cond.selects RX5 yX5_predictedValue yX5_predictedValue, Cond.code yX5_predictedValue cX5_predictedValue 2 (some .int), Cond.methodLink RX5 107 yX5_predictedAt, Cond.instanceMethod yX5_predictedAt, Cond.selects RX5 yX5_predictedAt yX5_predictedAt, Cond.code yX5_predictedAt cX5_predictedAt 3 (some .int), Cond.methodLink RX5 104 yX5_oldIndexOf, Cond.instanceMethod yX5_oldIndexOf, Cond.selects RX5 yX5_oldIndexOf yX5_oldIndexOf]
def wsL_law_r19 : List Cond := [Cond.code yX5_oldIndexOf cX5_oldIndexOf 3 (some .int), Cond.methodLink RL 73 yX4_correctionCount, Cond.instanceMethod yX4_correctionCount, Cond.selects RX4 yX4_correctionCount yX4_correctionCount, Cond.code yX4_correctionCount cX4_correctionCount 1 (some .int), Cond.methodLink RX4 115 yX4_corrections, Cond.instanceMethod yX4_corrections, Cond.selects RX4 yX4_corrections yX4_corrections, Cond.code yX4_corrections cX4_corrections 3 (some .int), Cond.methodLink RX4 118 yX4_needsCorrection, Cond.instanceMethod yX4_needsCorrection, Cond.selects RX4 yX4_needsCorrection yX4_needsCorrection, Cond.code yX4_needsCorrection cX4_needsCorrection 3 (some .boolean), Cond.methodLink RL 76 yX5_correctionCount, Cond.instanceMethod yX5_correctionCount, Cond.selects RX5 yX5_correctionCount yX5_correctionCount, Cond.code yX5_correctionCount cX5_correctionCount 1 (some .int), Cond.methodLink RX5 113 yX5_corrections, Cond.instanceMethod yX5_corrections, Cond.selects RX5 yX5_corrections yX5_corrections, Cond.code yX5_corrections cX5_corrections 3 (some .int), Cond.methodLink RX5 110 yX5_isCorrected, Cond.instanceMethod yX5_isCorrected, Cond.selects RX5 yX5_isCorrected yX5_isCorrected]
def wsL_law_r20 : List Cond := [Cond.code yX5_isCorrected cX5_isCorrected 2 (some .boolean), Cond.methodLink RL 77 yX4_correctionIndex, Cond.instanceMethod yX4_correctionIndex, Cond.selects RX4 yX4_correctionIndex yX4_correctionIndex, Cond.code yX4_correctionIndex cX4_correctionIndex 4 (some .int), Cond.methodLink RL 80 yX5_correctionIndex, Cond.instanceMethod yX5_correctionIndex, Cond.selects RX5 yX5_correctionIndex yX5_correctionIndex, Cond.code yX5_correctionIndex cX5_correctionIndex 4 (some .int), Cond.methodLink RL 81 yX4_literalCount, Cond.instanceMethod yX4_literalCount, Cond.selects RX4 yX4_literalCount yX4_literalCount, Cond.code yX4_literalCount cX4_literalCount 1 (some .int), Cond.methodLink RX4 121 yX4_literals, Cond.instanceMethod yX4_literals, Cond.selects RX4 yX4_literals yX4_literals, Cond.code yX4_literals cX4_literals 3 (some .int), Cond.methodLink RL 84 yX5_literalCount, Cond.instanceMethod yX5_literalCount, Cond.selects RX5 yX5_literalCount yX5_literalCount, Cond.code yX5_literalCount cX5_literalCount 1 (some .int), Cond.methodLink RX5 116 yX5_literals, Cond.instanceMethod yX5_literals, Cond.selects RX5 yX5_literals yX5_literals]
def wsL_law_r21 : List Cond := [Cond.code yX5_literals cX5_literals 3 (some .int), Cond.methodLink RL 85 yX4_patchSize, Cond.instanceMethod yX4_patchSize, Cond.selects RX4 yX4_patchSize yX4_patchSize, Cond.code yX4_patchSize cX4_patchSize 1 (some .int), Cond.methodLink RX4 124 yX4_blocksAndLiteralsCost, Cond.instanceMethod yX4_blocksAndLiteralsCost, Cond.selects RX4 yX4_blocksAndLiteralsCost yX4_blocksAndLiteralsCost, Cond.code yX4_blocksAndLiteralsCost cX4_blocksAndLiteralsCost 1 (some .int), Cond.methodLink RL 88 yX5_patchSize, Cond.instanceMethod yX5_patchSize, Cond.selects RX5 yX5_patchSize yX5_patchSize, Cond.code yX5_patchSize cX5_patchSize 1 (some .int), Cond.methodLink RL 89 yX4_unpredictedSize, Cond.instanceMethod yX4_unpredictedSize, Cond.selects RX4 yX4_unpredictedSize yX4_unpredictedSize, Cond.code yX4_unpredictedSize cX4_unpredictedSize 1 (some .int), Cond.methodLink RX4 127 yX4_changedWords, Cond.instanceMethod yX4_changedWords, Cond.selects RX4 yX4_changedWords yX4_changedWords, Cond.code yX4_changedWords cX4_changedWords 3 (some .int), Cond.methodLink RX4 136 yX4_isChanged, Cond.instanceMethod yX4_isChanged, Cond.selects RX4 yX4_isChanged yX4_isChanged]
def wsL_law_r22 : List Cond := [Cond.code yX4_isChanged cX4_isChanged 3 (some .boolean), Cond.methodLink RL 92 yX5_unpredictedSize, Cond.instanceMethod yX5_unpredictedSize, Cond.selects RX5 yX5_unpredictedSize yX5_unpredictedSize, Cond.code yX5_unpredictedSize cX5_unpredictedSize 3 (some .int), Cond.methodLink RL 93 yX4_copyCount, Cond.instanceMethod yX4_copyCount, Cond.selects RX4 yX4_copyCount yX4_copyCount, Cond.code yX4_copyCount cX4_copyCount 1 (some .int), Cond.methodLink RX4 139 yX2_steps, Cond.instanceMethod yX2_steps, Cond.selects RX2 yX2_steps yX2_steps, Cond.code yX2_steps cX2_steps 1 (some .int), Cond.methodLink RL 96 yX5_copyCount, Cond.instanceMethod yX5_copyCount, Cond.selects RX5 yX5_copyCount yX5_copyCount, Cond.code yX5_copyCount cX5_copyCount 1 (some .int), Cond.methodLink RL 97 yX4_copyStep, Cond.instanceMethod yX4_copyStep, Cond.selects RX4 yX4_copyStep yX4_copyStep, Cond.code yX4_copyStep cX4_copyStep 2 (some .int), Cond.methodLink RX4 142 yX2_hasStep, Cond.instanceMethod yX2_hasStep, Cond.selects RX2 yX2_hasStep yX2_hasStep]
def wsL_law_r23 : List Cond := [Cond.code yX2_hasStep cX2_hasStep 2 (some .boolean), Cond.methodLink RX4 145 yX2_blockOfStep, Cond.instanceMethod yX2_blockOfStep, Cond.selects RX2 yX2_blockOfStep yX2_blockOfStep, Cond.code yX2_blockOfStep cX2_blockOfStep 2 (some .int), Cond.methodLink RX2 26 yX2_hasStep, Cond.methodLink RL 100 yX5_copyStep, Cond.instanceMethod yX5_copyStep, Cond.selects RX5 yX5_copyStep yX5_copyStep, Cond.code yX5_copyStep cX5_copyStep 2 (some .int), Cond.methodLink RL 101 yX4_isDropped, Cond.instanceMethod yX4_isDropped, Cond.selects RX4 yX4_isDropped yX4_isDropped, Cond.code yX4_isDropped cX4_isDropped 3 (some .int), Cond.methodLink RX4 148 yX2_drops, Cond.instanceMethod yX2_drops, Cond.selects RX2 yX2_drops yX2_drops, Cond.code yX2_drops cX2_drops 2 (some .boolean), Cond.methodLink RL 104 yX5_isDropped, Cond.instanceMethod yX5_isDropped, Cond.selects RX5 yX5_isDropped yX5_isDropped, Cond.code yX5_isDropped cX5_isDropped 2 (some .int), Cond.methodLink RL 105 yX4_inPlaceSize, Cond.instanceMethod yX4_inPlaceSize]
def wsL_law_r24 : List Cond := [Cond.selects RX4 yX4_inPlaceSize yX4_inPlaceSize, Cond.code yX4_inPlaceSize cX4_inPlaceSize 3 (some .int), Cond.methodLink RX4 151 yX4_inPlaceWordCost, Cond.instanceMethod yX4_inPlaceWordCost, Cond.selects RX4 yX4_inPlaceWordCost yX4_inPlaceWordCost, Cond.code yX4_inPlaceWordCost cX4_inPlaceWordCost 2 (some .int), Cond.methodLink RX4 162 yX4_isCopied, Cond.instanceMethod yX4_isCopied, Cond.selects RX4 yX4_isCopied yX4_isCopied, Cond.code yX4_isCopied cX4_isCopied 3 (some .boolean), Cond.methodLink RL 108 yX5_inPlaceSize, Cond.instanceMethod yX5_inPlaceSize, Cond.selects RX5 yX5_inPlaceSize yX5_inPlaceSize, Cond.code yX5_inPlaceSize cX5_inPlaceSize 3 (some .int), Cond.methodLink RX5 134 yX5_isCopied, Cond.instanceMethod yX5_isCopied, Cond.selects RX5 yX5_isCopied yX5_isCopied, Cond.code yX5_isCopied cX5_isCopied 2 (some .boolean), Cond.methodLink RL 109 yX4_memoryAfter, Cond.instanceMethod yX4_memoryAfter, Cond.selects RX4 yX4_memoryAfter yX4_memoryAfter, Cond.code yX4_memoryAfter cX4_memoryAfter 4 (some .int), Cond.methodLink RX4 154 Lib.Math.max.name, Cond.static Lib.Math.max.name]
def wsL_law_r25 : List Cond := [Cond.initialized "java/lang/Math", Cond.code Lib.Math.max.name Lib.Math.max.code 2 (some .int), Cond.methodLink RX4 159 yX4_memoryValue, Cond.instanceMethod yX4_memoryValue, Cond.selects RX4 yX4_memoryValue yX4_memoryValue, Cond.code yX4_memoryValue cX4_memoryValue 3 (some .int), Cond.methodLink RX4 165 yX2_origin, Cond.instanceMethod yX2_origin, Cond.selects RX2 yX2_origin yX2_origin, Cond.code yX2_origin cX2_origin 7 (some .int), Cond.methodLink RX2 30 yX2_blockOfStep, Cond.methodLink RX2 34 yX1_covers, Cond.methodLink RX2 40 yX1_oldIndex, Cond.methodLink RL 112 yX5_memoryAfter, Cond.instanceMethod yX5_memoryAfter, Cond.selects RX5 yX5_memoryAfter yX5_memoryAfter, Cond.code yX5_memoryAfter cX5_memoryAfter 3 (some .int), Cond.methodLink RX5 137 yX5_plays, Cond.instanceMethod yX5_plays, Cond.selects RX5 yX5_plays yX5_plays, Cond.code yX5_plays cX5_plays 5 none, Cond.methodLink RL 113 yX4_patchedValue, Cond.instanceMethod yX4_patchedValue, Cond.selects RX4 yX4_patchedValue yX4_patchedValue]
def wsL_law_r26 : List Cond := [Cond.code yX4_patchedValue cX4_patchedValue 5 (some .int), Cond.methodLink RL 116 yX5_patchedValue, Cond.instanceMethod yX5_patchedValue, Cond.selects RX5 yX5_patchedValue yX5_patchedValue, Cond.code yX5_patchedValue cX5_patchedValue 2 (some .int)]
def wsL_law : List Cond := (wsL_law_r1 ++ (wsL_law_r2 ++ (wsL_law_r3 ++ (wsL_law_r4 ++ (wsL_law_r5 ++ (wsL_law_r6 ++ (wsL_law_r7 ++ (wsL_law_r8 ++ (wsL_law_r9 ++ (wsL_law_r10 ++ (wsL_law_r11 ++ (wsL_law_r12 ++ (wsL_law_r13 ++ (wsL_law_r14 ++ (wsL_law_r15 ++ (wsL_law_r16 ++ (wsL_law_r17 ++ (wsL_law_r18 ++ (wsL_law_r19 ++ (wsL_law_r20 ++ (wsL_law_r21 ++ (wsL_law_r22 ++ (wsL_law_r23 ++ (wsL_law_r24 ++ (wsL_law_r25 ++ wsL_law_r26))))))))))))))))))))))))) ++ wsX40 ++ wsX50 ++ wsX30 ++ wsX10 ++ wsX00 ++ wsX20 ++ ([] : List Cond)
end
section
theorem mem_r {big : List Cond} (ws : List Cond) (ps : List Nat) (hp : ws = ps.filterMap (fun i => big[i]?)) : ∀ w ∈ ws, w ∈ big := by
  intro w hw
  rw [hp] at hw
  obtain ⟨i, -, hi⟩ := List.mem_filterMap.mp hw
  exact List.mem_of_getElem? hi
set_option maxRecDepth 20000 in
theorem wsL_in_r1 : ∀ w ∈ wsL_law_r1, w ∈ lw_tbl := mem_r _ [53, 54, 46, 494, 495, 51, 55, 56, 57, 58, 59, 60, 61, 62, 47, 142, 143, 79, 80, 48, 144, 98, 99, 49] (by decide +kernel)
set_option maxRecDepth 20000 in
theorem wsL_in_r2 : ∀ w ∈ wsL_law_r2, w ∈ lw_tbl := mem_r _ [145, 123, 124, 50, 146, 147, 63, 64, 65, 66, 77, 67, 78, 68, 69, 81, 82, 83, 84, 85, 86, 87, 88, 100] (by decide +kernel)
set_option maxRecDepth 20000 in
theorem wsL_in_r3 : ∀ w ∈ wsL_law_r3, w ∈ lw_tbl := mem_r _ [101, 102, 103, 104, 105, 106, 107, 108, 109, 125, 126, 127, 128, 129, 130, 131, 132, 496, 497, 498, 499, 501, 502, 504] (by decide +kernel)
set_option maxRecDepth 20000 in
theorem wsL_in_r4 : ∀ w ∈ wsL_law_r4, w ∈ lw_tbl := mem_r _ [505, 508, 509, 510, 511, 512, 513, 515, 516, 517, 518, 506, 161, 162, 163, 164, 165, 167, 0, 168, 169, 170, 171, 172] (by decide +kernel)
set_option maxRecDepth 20000 in
theorem wsL_in_r5 : ∀ w ∈ wsL_law_r5, w ∈ lw_tbl := mem_r _ [173, 174, 175, 176, 177, 178, 179, 180, 181, 182, 183, 184, 558, 559, 560, 561, 500, 562, 563, 564, 185, 186, 187, 188] (by decide +kernel)
set_option maxRecDepth 20000 in
theorem wsL_in_r6 : ∀ w ∈ wsL_law_r6, w ∈ lw_tbl := mem_r _ [565, 566, 567, 568, 503, 189, 190, 191, 192, 193, 194, 195, 196, 197, 198, 199, 200, 201, 202, 203, 204, 205, 569, 570] (by decide +kernel)
set_option maxRecDepth 20000 in
theorem wsL_in_r7 : ∀ w ∈ wsL_law_r7, w ∈ lw_tbl := mem_r _ [571, 572, 573, 575, 25, 576, 206, 207, 208, 209, 210, 211, 212, 213, 577, 578, 579, 580, 214, 215, 216, 217, 581, 582] (by decide +kernel)
set_option maxRecDepth 20000 in
theorem wsL_in_r8 : ∀ w ∈ wsL_law_r8, w ∈ lw_tbl := mem_r _ [583, 584, 218, 219, 220, 221, 585, 586, 587, 588, 222, 223, 224, 225, 589, 590, 591, 592, 226, 227, 228, 229, 230, 231] (by decide +kernel)
set_option maxRecDepth 20000 in
theorem wsL_in_r9 : ∀ w ∈ wsL_law_r9, w ∈ lw_tbl := mem_r _ [232, 233, 234, 235, 236, 237, 238, 240, 1, 241, 242, 244, 2, 245, 246, 247, 249, 3, 250, 251, 253, 4, 254, 255] (by decide +kernel)
set_option maxRecDepth 20000 in
theorem wsL_in_r10 : ∀ w ∈ wsL_law_r10, w ∈ lw_tbl := mem_r _ [256, 257, 258, 259, 260, 261, 262, 263, 265, 5, 266, 267, 269, 6, 270, 271, 272, 273, 274, 275, 276, 277, 278, 279] (by decide +kernel)
set_option maxRecDepth 20000 in
theorem wsL_in_r11 : ∀ w ∈ wsL_law_r11, w ∈ lw_tbl := mem_r _ [280, 281, 282, 283, 284, 285, 286, 287, 289, 7, 290, 291, 293, 8, 294, 295, 297, 9, 298, 299, 300, 301, 302, 303] (by decide +kernel)
set_option maxRecDepth 20000 in
theorem wsL_in_r12 : ∀ w ∈ wsL_law_r12, w ∈ lw_tbl := mem_r _ [304, 305, 306, 307, 308, 309, 310, 311, 312, 313, 314, 315, 316, 318, 10, 319, 320, 322, 11, 323, 324, 325, 327, 12] (by decide +kernel)
set_option maxRecDepth 20000 in
theorem wsL_in_r13 : ∀ w ∈ wsL_law_r13, w ∈ lw_tbl := mem_r _ [328, 329, 593, 594, 595, 596, 507, 597, 599, 26, 600, 601, 603, 27, 604, 605, 607, 28, 608, 609, 611, 29, 612, 613] (by decide +kernel)
set_option maxRecDepth 20000 in
theorem wsL_in_r14 : ∀ w ∈ wsL_law_r14, w ∈ lw_tbl := mem_r _ [615, 30, 616, 617, 619, 31, 620, 514, 621, 623, 32, 624, 625, 627, 33, 628, 629, 631, 34, 632, 633, 635, 35, 636] (by decide +kernel)
set_option maxRecDepth 20000 in
theorem wsL_in_r15 : ∀ w ∈ wsL_law_r15, w ∈ lw_tbl := mem_r _ [330, 331, 332, 333, 334, 336, 13, 337, 338, 339, 637, 638, 639, 640, 641, 643, 36, 644, 340, 341, 342, 343, 344, 645] (by decide +kernel)
set_option maxRecDepth 20000 in
theorem wsL_in_r16 : ∀ w ∈ wsL_law_r16, w ∈ lw_tbl := mem_r _ [646, 647, 648, 345, 346, 347, 348, 349, 649, 650, 651, 652, 350, 351, 352, 353, 354, 356, 14, 357, 358, 359, 360, 361] (by decide +kernel)
set_option maxRecDepth 20000 in
theorem wsL_in_r17 : ∀ w ∈ wsL_law_r17, w ∈ lw_tbl := mem_r _ [362, 363, 364, 365, 653, 654, 655, 656, 366, 367, 368, 369, 370, 371, 372, 373, 657, 658, 659, 660, 661, 663, 37, 664] (by decide +kernel)
set_option maxRecDepth 20000 in
theorem wsL_in_r18 : ∀ w ∈ wsL_law_r18, w ∈ lw_tbl := mem_r _ [374, 375, 376, 377, 378, 380, 15, 381, 382, 383, 384, 385, 386, 665, 666, 667, 668, 669, 671, 38, 672, 673, 675, 39] (by decide +kernel)
set_option maxRecDepth 20000 in
theorem wsL_in_r19 : ∀ w ∈ wsL_law_r19, w ∈ lw_tbl := mem_r _ [676, 387, 388, 389, 390, 391, 393, 16, 394, 395, 397, 17, 398, 677, 678, 679, 680, 681, 683, 40, 684, 685, 687, 41] (by decide +kernel)
set_option maxRecDepth 20000 in
theorem wsL_in_r20 : ∀ w ∈ wsL_law_r20, w ∈ lw_tbl := mem_r _ [688, 399, 400, 401, 402, 689, 690, 691, 692, 403, 404, 405, 406, 407, 409, 18, 410, 693, 694, 695, 696, 697, 699, 42] (by decide +kernel)
set_option maxRecDepth 20000 in
theorem wsL_in_r21 : ∀ w ∈ wsL_law_r21, w ∈ lw_tbl := mem_r _ [700, 411, 412, 413, 414, 415, 417, 19, 418, 701, 702, 703, 704, 419, 420, 421, 422, 423, 425, 20, 426, 427, 429, 21] (by decide +kernel)
set_option maxRecDepth 20000 in
theorem wsL_in_r22 : ∀ w ∈ wsL_law_r22, w ∈ lw_tbl := mem_r _ [430, 705, 706, 707, 708, 431, 432, 433, 434, 435, 436, 437, 438, 709, 710, 711, 712, 439, 440, 441, 442, 443, 444, 445] (by decide +kernel)
set_option maxRecDepth 20000 in
theorem wsL_in_r23 : ∀ w ∈ wsL_law_r23, w ∈ lw_tbl := mem_r _ [446, 447, 448, 449, 450, 451, 713, 714, 715, 716, 452, 453, 454, 455, 456, 457, 458, 459, 717, 718, 719, 720, 460, 461] (by decide +kernel)
set_option maxRecDepth 20000 in
theorem wsL_in_r24 : ∀ w ∈ wsL_law_r24, w ∈ lw_tbl := mem_r _ [462, 463, 464, 466, 22, 467, 468, 470, 23, 471, 721, 722, 723, 724, 725, 727, 43, 728, 472, 473, 474, 475, 476, 477] (by decide +kernel)
set_option maxRecDepth 20000 in
theorem wsL_in_r25 : ∀ w ∈ wsL_law_r25, w ∈ lw_tbl := mem_r _ [52, 478, 479, 481, 24, 482, 483, 484, 485, 486, 487, 488, 489, 729, 730, 731, 732, 733, 735, 44, 736, 490, 491, 492] (by decide +kernel)
set_option maxRecDepth 20000 in
theorem wsL_in_r26 : ∀ w ∈ wsL_law_r26, w ∈ lw_tbl := mem_r _ [493, 737, 738, 739, 740] (by decide +kernel)
set_option maxRecDepth 20000 in
theorem inX0 : ∀ w ∈ wsX00, w ∈ lw_tbl := mem_r _ [110, 112, 114, 116, 118, 120] (by decide +kernel)
set_option maxRecDepth 20000 in
theorem inX1 : ∀ w ∈ wsX10, w ∈ lw_tbl := mem_r _ [89, 91, 93, 95] (by decide +kernel)
set_option maxRecDepth 20000 in
theorem inX2 : ∀ w ∈ wsX20, w ∈ lw_tbl := mem_r _ [133, 135, 137, 139] (by decide +kernel)
set_option maxRecDepth 20000 in
theorem inX3 : ∀ w ∈ wsX30, w ∈ lw_tbl := mem_r _ [70, 72, 74] (by decide +kernel)
set_option maxRecDepth 20000 in
theorem inX4 : ∀ w ∈ wsX40, w ∈ lw_tbl := mem_r _ [148, 150, 152, 154, 156, 158] (by decide +kernel)
set_option maxRecDepth 20000 in
theorem inX5 : ∀ w ∈ wsX50, w ∈ lw_tbl := mem_r _ [519, 521, 523, 525, 527, 529, 531, 533, 535, 537, 539, 541, 543, 545, 547, 549, 551, 553, 555] (by decide +kernel)
theorem mem_ap {big a b : List Cond} (ha : ∀ w ∈ a, w ∈ big) (hb : ∀ w ∈ b, w ∈ big) : ∀ w ∈ a ++ b, w ∈ big := fun w h => (List.mem_append.mp h).elim (ha w) (hb w)
set_option maxRecDepth 20000 in
theorem wsL_law_in : ∀ w ∈ wsL_law, w ∈ lw_tbl := (mem_ap (mem_ap (mem_ap (mem_ap (mem_ap (mem_ap (mem_ap (mem_ap wsL_in_r1 (mem_ap wsL_in_r2 (mem_ap wsL_in_r3 (mem_ap wsL_in_r4 (mem_ap wsL_in_r5 (mem_ap wsL_in_r6 (mem_ap wsL_in_r7 (mem_ap wsL_in_r8 (mem_ap wsL_in_r9 (mem_ap wsL_in_r10 (mem_ap wsL_in_r11 (mem_ap wsL_in_r12 (mem_ap wsL_in_r13 (mem_ap wsL_in_r14 (mem_ap wsL_in_r15 (mem_ap wsL_in_r16 (mem_ap wsL_in_r17 (mem_ap wsL_in_r18 (mem_ap wsL_in_r19 (mem_ap wsL_in_r20 (mem_ap wsL_in_r21 (mem_ap wsL_in_r22 (mem_ap wsL_in_r23 (mem_ap wsL_in_r24 (mem_ap wsL_in_r25 wsL_in_r26))))))))))))))))))))))))) inX4) inX5) inX3) inX1) inX0) inX2) (fun _ h => absurd h List.not_mem_nil))
theorem inlX0 : ∀ w ∈ wsX00, w ∈ wsL_law := fun _ h => List.mem_append_left _ (List.mem_append_left _ (List.mem_append_right _ h))
theorem inlX1 : ∀ w ∈ wsX10, w ∈ wsL_law := fun _ h => List.mem_append_left _ (List.mem_append_left _ (List.mem_append_left _ (List.mem_append_right _ h)))
theorem inlX2 : ∀ w ∈ wsX20, w ∈ wsL_law := fun _ h => List.mem_append_left _ (List.mem_append_right _ h)
theorem inlX3 : ∀ w ∈ wsX30, w ∈ wsL_law := fun _ h => List.mem_append_left _ (List.mem_append_left _ (List.mem_append_left _ (List.mem_append_left _ (List.mem_append_right _ h))))
theorem inlX4 : ∀ w ∈ wsX40, w ∈ wsL_law := fun _ h => List.mem_append_left _ (List.mem_append_left _ (List.mem_append_left _ (List.mem_append_left _ (List.mem_append_left _ (List.mem_append_left _ (List.mem_append_right _ h))))))
theorem inlX5 : ∀ w ∈ wsX50, w ∈ wsL_law := fun _ h => List.mem_append_left _ (List.mem_append_left _ (List.mem_append_left _ (List.mem_append_left _ (List.mem_append_left _ (List.mem_append_right _ h)))))
theorem inJ9 : ∀ w ∈ wsJ90, w ∈ lw_tbl := by decide +kernel
theorem dX0_init_0 : decode cX0_init 0 = .ok (.aload_n 0, 1) := by decide +kernel
theorem dX0_init_1 : decode cX0_init 1 = .ok (.invokespecial 3, 3) := by decide +kernel
theorem dX0_init_4 : decode cX0_init 4 = .ok (.aload_n 0, 1) := by decide +kernel
theorem dX0_init_5 : decode cX0_init 5 = .ok (.bipush 48, 2) := by decide +kernel
theorem dX0_init_7 : decode cX0_init 7 = .ok (.newarray .boolean, 2) := by decide +kernel
theorem dX0_init_9 : decode cX0_init 9 = .ok (.putfield 9, 3) := by decide +kernel
theorem dX0_init_12 : decode cX0_init 12 = .ok (.aload_n 0, 1) := by decide +kernel
theorem dX0_init_13 : decode cX0_init 13 = .ok (.bipush 48, 2) := by decide +kernel
theorem dX0_init_15 : decode cX0_init 15 = .ok (.newarray .boolean, 2) := by decide +kernel
theorem dX0_init_17 : decode cX0_init 17 = .ok (.putfield 15, 3) := by decide +kernel
theorem dX0_init_20 : decode cX0_init 20 = .ok (.aload_n 0, 1) := by decide +kernel
theorem dX0_init_21 : decode cX0_init 21 = .ok (.bipush 49, 2) := by decide +kernel
theorem dX0_init_23 : decode cX0_init 23 = .ok (.newarray .int, 2) := by decide +kernel
theorem dX0_init_25 : decode cX0_init 25 = .ok (.putfield 18, 3) := by decide +kernel
theorem dX0_init_28 : decode cX0_init 28 = .ok (.aload_n 0, 1) := by decide +kernel
theorem dX0_init_29 : decode cX0_init 29 = .ok (.iconst 0, 1) := by decide +kernel
theorem dX0_init_30 : decode cX0_init 30 = .ok (.putfield 22, 3) := by decide +kernel
theorem dX0_init_33 : decode cX0_init 33 = .ok (.aload_n 0, 1) := by decide +kernel
theorem dX0_init_34 : decode cX0_init 34 = .ok (.iconst 0, 1) := by decide +kernel
theorem dX0_init_35 : decode cX0_init 35 = .ok (.putfield 26, 3) := by decide +kernel
theorem dX0_init_38 : decode cX0_init 38 = .ok (.aload_n 0, 1) := by decide +kernel
theorem dX0_init_39 : decode cX0_init 39 = .ok (.iconst 0, 1) := by decide +kernel
theorem dX0_init_40 : decode cX0_init 40 = .ok (.putfield 29, 3) := by decide +kernel
theorem dX0_init_43 : decode cX0_init 43 = .ok (.return_, 1) := by decide +kernel
set_option maxRecDepth 20000 in
theorem ggX0_align_X1_removeAll : GoodIn wsX0_align wsX1_removeAll := goodIn_r _ [8, 9, 74, 75, 76, 77] (by decide +kernel) (by decide +kernel)
set_option maxRecDepth 20000 in
theorem gX0_align_X1_removeAll : GoodIn wsX0_align (wsV RX0 32 RX1 yX1_removeAll wsX1_removeAll) := goodIn_app (goodIn_of _ (by decide +kernel)) ggX0_align_X1_removeAll
set_option maxRecDepth 20000 in
theorem ggX0_align_X0_freeAllWords : GoodIn wsX0_align wsX0_freeAllWords := goodIn_r _ [14, 15, 16, 68, 69, 70, 71, 72, 73] (by decide +kernel) (by decide +kernel)
set_option maxRecDepth 20000 in
theorem gX0_align_X0_freeAllWords : GoodIn wsX0_align (wsV RX0 37 RX0 yX0_freeAllWords wsX0_freeAllWords) := goodIn_app (goodIn_of _ (by decide +kernel)) ggX0_align_X0_freeAllWords
set_option maxRecDepth 20000 in
theorem ggX0_align_X0_findLongestRun : GoodIn wsX0_align wsX0_findLongestRun := goodIn_r _ [20, 2, 3, 1, 21, 22, 23, 24, 25, 26, 27, 28, 29, 30, 13, 31, 32, 33, 34, 35, 15, 16, 36, 37, 38, 39, 40, 41, 42, 43, 44, 45, 46, 47, 48, 49, 50, 51, 52, 53, 54, 55, 56, 68, 69, 70, 71, 72, 73, 78, 79, 80] (by decide +kernel) (by decide +kernel)
set_option maxRecDepth 20000 in
theorem gX0_align_X0_findLongestRun : GoodIn wsX0_align (wsV RX0 40 RX0 yX0_findLongestRun wsX0_findLongestRun) := goodIn_app (goodIn_of _ (by decide +kernel)) ggX0_align_X0_findLongestRun
set_option maxRecDepth 20000 in
theorem ggX0_align_X0_takeLongestRun : GoodIn wsX0_align wsX0_takeLongestRun := goodIn_r _ [60, 1, 2, 3, 15, 16, 32, 33, 34, 13, 35, 68, 69, 70, 71, 72, 73] (by decide +kernel) (by decide +kernel)
set_option maxRecDepth 20000 in
theorem gX0_align_X0_takeLongestRun : GoodIn wsX0_align (wsV RX0 44 RX0 yX0_takeLongestRun wsX0_takeLongestRun) := goodIn_app (goodIn_of _ (by decide +kernel)) ggX0_align_X0_takeLongestRun
set_option maxRecDepth 20000 in
theorem ggX0_align_X1_insert : GoodIn wsX0_align wsX1_insert := goodIn_r _ [64, 9, 65, 66, 67, 74, 75, 76, 77] (by decide +kernel) (by decide +kernel)
set_option maxRecDepth 20000 in
theorem gX0_align_X1_insert : GoodIn wsX0_align (wsV RX0 47 RX1 yX1_insert wsX1_insert) := goodIn_app (goodIn_of _ (by decide +kernel)) ggX0_align_X1_insert
theorem dX0_align_0 : decode cX0_align 0 = .ok (.aload_n 3, 1) := by decide +kernel
theorem dX0_align_1 : decode cX0_align 1 = .ok (.invokevirtual 32, 3) := by decide +kernel
theorem dX0_align_4 : decode cX0_align 4 = .ok (.aload_n 0, 1) := by decide +kernel
theorem dX0_align_5 : decode cX0_align 5 = .ok (.invokevirtual 37, 3) := by decide +kernel
theorem dX0_align_8 : decode cX0_align 8 = .ok (.iconst 0, 1) := by decide +kernel
theorem dX0_align_9 : decode cX0_align 9 = .ok (.istore 5, 2) := by decide +kernel
theorem dX0_align_11 : decode cX0_align 11 = .ok (.iload 5, 2) := by decide +kernel
theorem dX0_align_13 : decode cX0_align 13 = .ok (.bipush 48, 2) := by decide +kernel
theorem dX0_align_15 : decode cX0_align 15 = .ok (.if_icmp .ge 45, 3) := by decide +kernel
theorem dX0_align_18 : decode cX0_align 18 = .ok (.aload_n 0, 1) := by decide +kernel
theorem dX0_align_19 : decode cX0_align 19 = .ok (.aload_n 1, 1) := by decide +kernel
theorem dX0_align_20 : decode cX0_align 20 = .ok (.aload_n 2, 1) := by decide +kernel
theorem dX0_align_21 : decode cX0_align 21 = .ok (.invokevirtual 40, 3) := by decide +kernel
theorem dX0_align_24 : decode cX0_align 24 = .ok (.aload_n 0, 1) := by decide +kernel
theorem dX0_align_25 : decode cX0_align 25 = .ok (.getfield 29, 3) := by decide +kernel
theorem dX0_align_28 : decode cX0_align 28 = .ok (.iload 4, 2) := by decide +kernel
theorem dX0_align_30 : decode cX0_align 30 = .ok (.if_icmp .ge 4, 3) := by decide +kernel
theorem dX0_align_33 : decode cX0_align 33 = .ok (.return_, 1) := by decide +kernel
theorem dX0_align_34 : decode cX0_align 34 = .ok (.aload_n 0, 1) := by decide +kernel
theorem dX0_align_35 : decode cX0_align 35 = .ok (.invokevirtual 44, 3) := by decide +kernel
theorem dX0_align_38 : decode cX0_align 38 = .ok (.aload_n 3, 1) := by decide +kernel
theorem dX0_align_39 : decode cX0_align 39 = .ok (.aload_n 0, 1) := by decide +kernel
theorem dX0_align_40 : decode cX0_align 40 = .ok (.getfield 22, 3) := by decide +kernel
theorem dX0_align_43 : decode cX0_align 43 = .ok (.aload_n 0, 1) := by decide +kernel
theorem dX0_align_44 : decode cX0_align 44 = .ok (.getfield 26, 3) := by decide +kernel
theorem dX0_align_47 : decode cX0_align 47 = .ok (.aload_n 0, 1) := by decide +kernel
theorem dX0_align_48 : decode cX0_align 48 = .ok (.getfield 29, 3) := by decide +kernel
theorem dX0_align_51 : decode cX0_align 51 = .ok (.invokevirtual 47, 3) := by decide +kernel
theorem dX0_align_54 : decode cX0_align 54 = .ok (.iinc 5 1, 3) := by decide +kernel
theorem dX0_align_57 : decode cX0_align 57 = .ok (.goto (-46), 3) := by decide +kernel
theorem dX0_align_60 : decode cX0_align 60 = .ok (.return_, 1) := by decide +kernel
theorem dX0_freeAllWords_0 : decode cX0_freeAllWords 0 = .ok (.iconst 0, 1) := by decide +kernel
theorem dX0_freeAllWords_1 : decode cX0_freeAllWords 1 = .ok (.istore_n 1, 1) := by decide +kernel
theorem dX0_freeAllWords_2 : decode cX0_freeAllWords 2 = .ok (.iload_n 1, 1) := by decide +kernel
theorem dX0_freeAllWords_3 : decode cX0_freeAllWords 3 = .ok (.bipush 48, 2) := by decide +kernel
theorem dX0_freeAllWords_5 : decode cX0_freeAllWords 5 = .ok (.if_icmp .ge 23, 3) := by decide +kernel
theorem dX0_freeAllWords_8 : decode cX0_freeAllWords 8 = .ok (.aload_n 0, 1) := by decide +kernel
theorem dX0_freeAllWords_9 : decode cX0_freeAllWords 9 = .ok (.getfield 9, 3) := by decide +kernel
theorem dX0_freeAllWords_12 : decode cX0_freeAllWords 12 = .ok (.iload_n 1, 1) := by decide +kernel
theorem dX0_freeAllWords_13 : decode cX0_freeAllWords 13 = .ok (.iconst 0, 1) := by decide +kernel
theorem dX0_freeAllWords_14 : decode cX0_freeAllWords 14 = .ok (.bastore, 1) := by decide +kernel
theorem dX0_freeAllWords_15 : decode cX0_freeAllWords 15 = .ok (.aload_n 0, 1) := by decide +kernel
theorem dX0_freeAllWords_16 : decode cX0_freeAllWords 16 = .ok (.getfield 15, 3) := by decide +kernel
theorem dX0_freeAllWords_19 : decode cX0_freeAllWords 19 = .ok (.iload_n 1, 1) := by decide +kernel
theorem dX0_freeAllWords_20 : decode cX0_freeAllWords 20 = .ok (.iconst 0, 1) := by decide +kernel
theorem dX0_freeAllWords_21 : decode cX0_freeAllWords 21 = .ok (.bastore, 1) := by decide +kernel
theorem dX0_freeAllWords_22 : decode cX0_freeAllWords 22 = .ok (.iinc 1 1, 3) := by decide +kernel
theorem dX0_freeAllWords_25 : decode cX0_freeAllWords 25 = .ok (.goto (-23), 3) := by decide +kernel
theorem dX0_freeAllWords_28 : decode cX0_freeAllWords 28 = .ok (.return_, 1) := by decide +kernel
set_option maxRecDepth 20000 in
theorem ggX0_findLongestRun_X3_size : GoodIn wsX0_findLongestRun wsX3_size := goodIn_r _ [9, 10, 49, 50, 51] (by decide +kernel) (by decide +kernel)
set_option maxRecDepth 20000 in
theorem gX0_findLongestRun_X3_size : GoodIn wsX0_findLongestRun (wsV RX0 51 RX3 yX3_size wsX3_size) := goodIn_app (goodIn_of _ (by decide +kernel)) ggX0_findLongestRun_X3_size
set_option maxRecDepth 20000 in
theorem ggX0_findLongestRun_X0_extendRuns : GoodIn wsX0_findLongestRun wsX0_extendRuns := goodIn_r _ [15, 4, 3, 2, 1, 5, 6, 7, 8, 9, 10, 16, 17, 18, 14, 19, 20, 21, 22, 23, 24, 25, 26, 27, 28, 29, 30, 31, 32, 33, 34, 35, 36, 37, 38, 39, 40, 41, 42, 43, 44, 45, 46, 47, 48, 49, 50, 51] (by decide +kernel) (by decide +kernel)
set_option maxRecDepth 20000 in
theorem gX0_findLongestRun_X0_extendRuns : GoodIn wsX0_findLongestRun (wsV RX0 57 RX0 yX0_extendRuns wsX0_extendRuns) := goodIn_app (goodIn_of _ (by decide +kernel)) ggX0_findLongestRun_X0_extendRuns
theorem dX0_findLongestRun_0 : decode cX0_findLongestRun 0 = .ok (.aload_n 0, 1) := by decide +kernel
theorem dX0_findLongestRun_1 : decode cX0_findLongestRun 1 = .ok (.iconst 0, 1) := by decide +kernel
theorem dX0_findLongestRun_2 : decode cX0_findLongestRun 2 = .ok (.putfield 22, 3) := by decide +kernel
theorem dX0_findLongestRun_5 : decode cX0_findLongestRun 5 = .ok (.aload_n 0, 1) := by decide +kernel
theorem dX0_findLongestRun_6 : decode cX0_findLongestRun 6 = .ok (.iconst 0, 1) := by decide +kernel
theorem dX0_findLongestRun_7 : decode cX0_findLongestRun 7 = .ok (.putfield 26, 3) := by decide +kernel
theorem dX0_findLongestRun_10 : decode cX0_findLongestRun 10 = .ok (.aload_n 0, 1) := by decide +kernel
theorem dX0_findLongestRun_11 : decode cX0_findLongestRun 11 = .ok (.iconst 0, 1) := by decide +kernel
theorem dX0_findLongestRun_12 : decode cX0_findLongestRun 12 = .ok (.putfield 29, 3) := by decide +kernel
theorem dX0_findLongestRun_15 : decode cX0_findLongestRun 15 = .ok (.iconst 0, 1) := by decide +kernel
theorem dX0_findLongestRun_16 : decode cX0_findLongestRun 16 = .ok (.istore_n 3, 1) := by decide +kernel
theorem dX0_findLongestRun_17 : decode cX0_findLongestRun 17 = .ok (.iload_n 3, 1) := by decide +kernel
theorem dX0_findLongestRun_18 : decode cX0_findLongestRun 18 = .ok (.bipush 48, 2) := by decide +kernel
theorem dX0_findLongestRun_20 : decode cX0_findLongestRun 20 = .ok (.if_icmp .gt 16, 3) := by decide +kernel
theorem dX0_findLongestRun_23 : decode cX0_findLongestRun 23 = .ok (.aload_n 0, 1) := by decide +kernel
theorem dX0_findLongestRun_24 : decode cX0_findLongestRun 24 = .ok (.getfield 18, 3) := by decide +kernel
theorem dX0_findLongestRun_27 : decode cX0_findLongestRun 27 = .ok (.iload_n 3, 1) := by decide +kernel
theorem dX0_findLongestRun_28 : decode cX0_findLongestRun 28 = .ok (.iconst 0, 1) := by decide +kernel
theorem dX0_findLongestRun_29 : decode cX0_findLongestRun 29 = .ok (.iastore, 1) := by decide +kernel
theorem dX0_findLongestRun_30 : decode cX0_findLongestRun 30 = .ok (.iinc 3 1, 3) := by decide +kernel
theorem dX0_findLongestRun_33 : decode cX0_findLongestRun 33 = .ok (.goto (-16), 3) := by decide +kernel
theorem dX0_findLongestRun_36 : decode cX0_findLongestRun 36 = .ok (.aload_n 2, 1) := by decide +kernel
theorem dX0_findLongestRun_37 : decode cX0_findLongestRun 37 = .ok (.invokevirtual 51, 3) := by decide +kernel
theorem dX0_findLongestRun_40 : decode cX0_findLongestRun 40 = .ok (.iconst 1, 1) := by decide +kernel
theorem dX0_findLongestRun_41 : decode cX0_findLongestRun 41 = .ok (.isub, 1) := by decide +kernel
theorem dX0_findLongestRun_42 : decode cX0_findLongestRun 42 = .ok (.istore_n 3, 1) := by decide +kernel
theorem dX0_findLongestRun_43 : decode cX0_findLongestRun 43 = .ok (.iload_n 3, 1) := by decide +kernel
theorem dX0_findLongestRun_44 : decode cX0_findLongestRun 44 = .ok (.ifCond .lt 16, 3) := by decide +kernel
theorem dX0_findLongestRun_47 : decode cX0_findLongestRun 47 = .ok (.aload_n 0, 1) := by decide +kernel
theorem dX0_findLongestRun_48 : decode cX0_findLongestRun 48 = .ok (.aload_n 1, 1) := by decide +kernel
theorem dX0_findLongestRun_49 : decode cX0_findLongestRun 49 = .ok (.aload_n 2, 1) := by decide +kernel
theorem dX0_findLongestRun_50 : decode cX0_findLongestRun 50 = .ok (.iload_n 3, 1) := by decide +kernel
theorem dX0_findLongestRun_51 : decode cX0_findLongestRun 51 = .ok (.invokevirtual 57, 3) := by decide +kernel
theorem dX0_findLongestRun_54 : decode cX0_findLongestRun 54 = .ok (.iinc 3 (-1), 3) := by decide +kernel
theorem dX0_findLongestRun_57 : decode cX0_findLongestRun 57 = .ok (.goto (-14), 3) := by decide +kernel
theorem dX0_findLongestRun_60 : decode cX0_findLongestRun 60 = .ok (.return_, 1) := by decide +kernel
set_option maxRecDepth 20000 in
theorem ggX0_extendRuns_X3_size : GoodIn wsX0_extendRuns wsX3_size := goodIn_r _ [9, 10, 45, 46, 47] (by decide +kernel) (by decide +kernel)
set_option maxRecDepth 20000 in
theorem gX0_extendRuns_X3_size : GoodIn wsX0_extendRuns (wsV RX0 51 RX3 yX3_size wsX3_size) := goodIn_app (goodIn_of _ (by decide +kernel)) ggX0_extendRuns_X3_size
set_option maxRecDepth 20000 in
theorem ggX0_extendRuns_X0_isFree : GoodIn wsX0_extendRuns wsX0_isFree := goodIn_r _ [15, 16, 17, 39, 40, 41, 42, 43, 44] (by decide +kernel) (by decide +kernel)
set_option maxRecDepth 20000 in
theorem gX0_extendRuns_X0_isFree : GoodIn wsX0_extendRuns (wsV RX0 61 RX0 yX0_isFree wsX0_isFree) := goodIn_app (goodIn_of _ (by decide +kernel)) ggX0_extendRuns_X0_isFree
set_option maxRecDepth 20000 in
theorem ggX0_extendRuns_X0_wordsMatch : GoodIn wsX0_extendRuns wsX0_wordsMatch := goodIn_r _ [20, 21, 22, 23, 8, 24, 25, 26, 27, 28, 29, 10, 30, 31, 32, 33, 34, 45, 46, 47] (by decide +kernel) (by decide +kernel)
set_option maxRecDepth 20000 in
theorem gX0_extendRuns_X0_wordsMatch : GoodIn wsX0_extendRuns (va_wsS RX0 65 yX0_wordsMatch wsX0_wordsMatch) := goodIn_app (goodIn_of _ (by decide +kernel)) ggX0_extendRuns_X0_wordsMatch
set_option maxRecDepth 20000 in
theorem ggX0_extendRuns_X0_isBetter : GoodIn wsX0_extendRuns wsX0_isBetter := goodIn_r _ [38, 2, 3, 39, 40, 41, 42, 43, 44] (by decide +kernel) (by decide +kernel)
set_option maxRecDepth 20000 in
theorem gX0_extendRuns_X0_isBetter : GoodIn wsX0_extendRuns (wsV RX0 69 RX0 yX0_isBetter wsX0_isBetter) := goodIn_app (goodIn_of _ (by decide +kernel)) ggX0_extendRuns_X0_isBetter
theorem dX0_extendRuns_0 : decode cX0_extendRuns 0 = .ok (.iconst 0, 1) := by decide +kernel
theorem dX0_extendRuns_1 : decode cX0_extendRuns 1 = .ok (.istore 4, 2) := by decide +kernel
theorem dX0_extendRuns_3 : decode cX0_extendRuns 3 = .ok (.iload 4, 2) := by decide +kernel
theorem dX0_extendRuns_5 : decode cX0_extendRuns 5 = .ok (.aload_n 1, 1) := by decide +kernel
theorem dX0_extendRuns_6 : decode cX0_extendRuns 6 = .ok (.invokevirtual 51, 3) := by decide +kernel
theorem dX0_extendRuns_9 : decode cX0_extendRuns 9 = .ok (.if_icmp .ge 102, 3) := by decide +kernel
theorem dX0_extendRuns_12 : decode cX0_extendRuns 12 = .ok (.iload 4, 2) := by decide +kernel
theorem dX0_extendRuns_14 : decode cX0_extendRuns 14 = .ok (.bipush 48, 2) := by decide +kernel
theorem dX0_extendRuns_16 : decode cX0_extendRuns 16 = .ok (.if_icmp .ge 95, 3) := by decide +kernel
theorem dX0_extendRuns_19 : decode cX0_extendRuns 19 = .ok (.aload_n 0, 1) := by decide +kernel
theorem dX0_extendRuns_20 : decode cX0_extendRuns 20 = .ok (.iload 4, 2) := by decide +kernel
theorem dX0_extendRuns_22 : decode cX0_extendRuns 22 = .ok (.iload_n 3, 1) := by decide +kernel
theorem dX0_extendRuns_23 : decode cX0_extendRuns 23 = .ok (.invokevirtual 61, 3) := by decide +kernel
theorem dX0_extendRuns_26 : decode cX0_extendRuns 26 = .ok (.ifCond .eq 18, 3) := by decide +kernel
theorem dX0_extendRuns_29 : decode cX0_extendRuns 29 = .ok (.aload_n 1, 1) := by decide +kernel
theorem dX0_extendRuns_30 : decode cX0_extendRuns 30 = .ok (.iload 4, 2) := by decide +kernel
theorem dX0_extendRuns_32 : decode cX0_extendRuns 32 = .ok (.aload_n 2, 1) := by decide +kernel
theorem dX0_extendRuns_33 : decode cX0_extendRuns 33 = .ok (.iload_n 3, 1) := by decide +kernel
theorem dX0_extendRuns_34 : decode cX0_extendRuns 34 = .ok (.invokestatic 65, 3) := by decide +kernel
theorem dX0_extendRuns_37 : decode cX0_extendRuns 37 = .ok (.ifCond .eq 7, 3) := by decide +kernel
theorem dX0_extendRuns_40 : decode cX0_extendRuns 40 = .ok (.iconst 1, 1) := by decide +kernel
theorem dX0_extendRuns_41 : decode cX0_extendRuns 41 = .ok (.goto 4, 3) := by decide +kernel
theorem dX0_extendRuns_44 : decode cX0_extendRuns 44 = .ok (.iconst 0, 1) := by decide +kernel
theorem dX0_extendRuns_45 : decode cX0_extendRuns 45 = .ok (.istore 5, 2) := by decide +kernel
theorem dX0_extendRuns_47 : decode cX0_extendRuns 47 = .ok (.iload 5, 2) := by decide +kernel
theorem dX0_extendRuns_49 : decode cX0_extendRuns 49 = .ok (.ifCond .eq 17, 3) := by decide +kernel
theorem dX0_extendRuns_52 : decode cX0_extendRuns 52 = .ok (.aload_n 0, 1) := by decide +kernel
theorem dX0_extendRuns_53 : decode cX0_extendRuns 53 = .ok (.getfield 18, 3) := by decide +kernel
theorem dX0_extendRuns_56 : decode cX0_extendRuns 56 = .ok (.iload 4, 2) := by decide +kernel
theorem dX0_extendRuns_58 : decode cX0_extendRuns 58 = .ok (.iconst 1, 1) := by decide +kernel
theorem dX0_extendRuns_59 : decode cX0_extendRuns 59 = .ok (.iadd, 1) := by decide +kernel
theorem dX0_extendRuns_60 : decode cX0_extendRuns 60 = .ok (.iaload, 1) := by decide +kernel
theorem dX0_extendRuns_61 : decode cX0_extendRuns 61 = .ok (.iconst 1, 1) := by decide +kernel
theorem dX0_extendRuns_62 : decode cX0_extendRuns 62 = .ok (.iadd, 1) := by decide +kernel
theorem dX0_extendRuns_63 : decode cX0_extendRuns 63 = .ok (.goto 4, 3) := by decide +kernel
theorem dX0_extendRuns_66 : decode cX0_extendRuns 66 = .ok (.iconst 0, 1) := by decide +kernel
theorem dX0_extendRuns_67 : decode cX0_extendRuns 67 = .ok (.istore 6, 2) := by decide +kernel
theorem dX0_extendRuns_69 : decode cX0_extendRuns 69 = .ok (.aload_n 0, 1) := by decide +kernel
theorem dX0_extendRuns_70 : decode cX0_extendRuns 70 = .ok (.getfield 18, 3) := by decide +kernel
theorem dX0_extendRuns_73 : decode cX0_extendRuns 73 = .ok (.iload 4, 2) := by decide +kernel
theorem dX0_extendRuns_75 : decode cX0_extendRuns 75 = .ok (.iload 6, 2) := by decide +kernel
theorem dX0_extendRuns_77 : decode cX0_extendRuns 77 = .ok (.iastore, 1) := by decide +kernel
theorem dX0_extendRuns_78 : decode cX0_extendRuns 78 = .ok (.aload_n 0, 1) := by decide +kernel
theorem dX0_extendRuns_79 : decode cX0_extendRuns 79 = .ok (.iload 6, 2) := by decide +kernel
theorem dX0_extendRuns_81 : decode cX0_extendRuns 81 = .ok (.iload_n 3, 1) := by decide +kernel
theorem dX0_extendRuns_82 : decode cX0_extendRuns 82 = .ok (.invokevirtual 69, 3) := by decide +kernel
theorem dX0_extendRuns_85 : decode cX0_extendRuns 85 = .ok (.ifCond .eq 20, 3) := by decide +kernel
theorem dX0_extendRuns_88 : decode cX0_extendRuns 88 = .ok (.aload_n 0, 1) := by decide +kernel
theorem dX0_extendRuns_89 : decode cX0_extendRuns 89 = .ok (.iload 6, 2) := by decide +kernel
theorem dX0_extendRuns_91 : decode cX0_extendRuns 91 = .ok (.putfield 29, 3) := by decide +kernel
theorem dX0_extendRuns_94 : decode cX0_extendRuns 94 = .ok (.aload_n 0, 1) := by decide +kernel
theorem dX0_extendRuns_95 : decode cX0_extendRuns 95 = .ok (.iload_n 3, 1) := by decide +kernel
theorem dX0_extendRuns_96 : decode cX0_extendRuns 96 = .ok (.putfield 26, 3) := by decide +kernel
theorem dX0_extendRuns_99 : decode cX0_extendRuns 99 = .ok (.aload_n 0, 1) := by decide +kernel
theorem dX0_extendRuns_100 : decode cX0_extendRuns 100 = .ok (.iload 4, 2) := by decide +kernel
theorem dX0_extendRuns_102 : decode cX0_extendRuns 102 = .ok (.putfield 22, 3) := by decide +kernel
theorem dX0_extendRuns_105 : decode cX0_extendRuns 105 = .ok (.iinc 4 1, 3) := by decide +kernel
theorem dX0_extendRuns_108 : decode cX0_extendRuns 108 = .ok (.goto (-105), 3) := by decide +kernel
theorem dX0_extendRuns_111 : decode cX0_extendRuns 111 = .ok (.return_, 1) := by decide +kernel
theorem dX0_isBetter_0 : decode cX0_isBetter 0 = .ok (.iload_n 1, 1) := by decide +kernel
theorem dX0_isBetter_1 : decode cX0_isBetter 1 = .ok (.aload_n 0, 1) := by decide +kernel
theorem dX0_isBetter_2 : decode cX0_isBetter 2 = .ok (.getfield 29, 3) := by decide +kernel
theorem dX0_isBetter_5 : decode cX0_isBetter 5 = .ok (.if_icmp .gt 19, 3) := by decide +kernel
theorem dX0_isBetter_8 : decode cX0_isBetter 8 = .ok (.iload_n 1, 1) := by decide +kernel
theorem dX0_isBetter_9 : decode cX0_isBetter 9 = .ok (.aload_n 0, 1) := by decide +kernel
theorem dX0_isBetter_10 : decode cX0_isBetter 10 = .ok (.getfield 29, 3) := by decide +kernel
theorem dX0_isBetter_13 : decode cX0_isBetter 13 = .ok (.if_icmp .ne 15, 3) := by decide +kernel
theorem dX0_isBetter_16 : decode cX0_isBetter 16 = .ok (.iload_n 2, 1) := by decide +kernel
theorem dX0_isBetter_17 : decode cX0_isBetter 17 = .ok (.aload_n 0, 1) := by decide +kernel
theorem dX0_isBetter_18 : decode cX0_isBetter 18 = .ok (.getfield 26, 3) := by decide +kernel
theorem dX0_isBetter_21 : decode cX0_isBetter 21 = .ok (.if_icmp .ge 7, 3) := by decide +kernel
theorem dX0_isBetter_24 : decode cX0_isBetter 24 = .ok (.iconst 1, 1) := by decide +kernel
theorem dX0_isBetter_25 : decode cX0_isBetter 25 = .ok (.goto 4, 3) := by decide +kernel
theorem dX0_isBetter_28 : decode cX0_isBetter 28 = .ok (.iconst 0, 1) := by decide +kernel
theorem dX0_isBetter_29 : decode cX0_isBetter 29 = .ok (.ireturn, 1) := by decide +kernel
theorem dX0_isFree_0 : decode cX0_isFree 0 = .ok (.iload_n 1, 1) := by decide +kernel
theorem dX0_isFree_1 : decode cX0_isFree 1 = .ok (.ifCond .lt 41, 3) := by decide +kernel
theorem dX0_isFree_4 : decode cX0_isFree 4 = .ok (.iload_n 1, 1) := by decide +kernel
theorem dX0_isFree_5 : decode cX0_isFree 5 = .ok (.bipush 48, 2) := by decide +kernel
theorem dX0_isFree_7 : decode cX0_isFree 7 = .ok (.if_icmp .ge 35, 3) := by decide +kernel
theorem dX0_isFree_10 : decode cX0_isFree 10 = .ok (.aload_n 0, 1) := by decide +kernel
theorem dX0_isFree_11 : decode cX0_isFree 11 = .ok (.getfield 9, 3) := by decide +kernel
theorem dX0_isFree_14 : decode cX0_isFree 14 = .ok (.iload_n 1, 1) := by decide +kernel
theorem dX0_isFree_15 : decode cX0_isFree 15 = .ok (.baload, 1) := by decide +kernel
theorem dX0_isFree_16 : decode cX0_isFree 16 = .ok (.ifCond .ne 26, 3) := by decide +kernel
theorem dX0_isFree_19 : decode cX0_isFree 19 = .ok (.iload_n 2, 1) := by decide +kernel
theorem dX0_isFree_20 : decode cX0_isFree 20 = .ok (.ifCond .lt 22, 3) := by decide +kernel
theorem dX0_isFree_23 : decode cX0_isFree 23 = .ok (.iload_n 2, 1) := by decide +kernel
theorem dX0_isFree_24 : decode cX0_isFree 24 = .ok (.bipush 48, 2) := by decide +kernel
theorem dX0_isFree_26 : decode cX0_isFree 26 = .ok (.if_icmp .ge 16, 3) := by decide +kernel
theorem dX0_isFree_29 : decode cX0_isFree 29 = .ok (.aload_n 0, 1) := by decide +kernel
theorem dX0_isFree_30 : decode cX0_isFree 30 = .ok (.getfield 15, 3) := by decide +kernel
theorem dX0_isFree_33 : decode cX0_isFree 33 = .ok (.iload_n 2, 1) := by decide +kernel
theorem dX0_isFree_34 : decode cX0_isFree 34 = .ok (.baload, 1) := by decide +kernel
theorem dX0_isFree_35 : decode cX0_isFree 35 = .ok (.ifCond .ne 7, 3) := by decide +kernel
theorem dX0_isFree_38 : decode cX0_isFree 38 = .ok (.iconst 1, 1) := by decide +kernel
theorem dX0_isFree_39 : decode cX0_isFree 39 = .ok (.goto 4, 3) := by decide +kernel
theorem dX0_isFree_42 : decode cX0_isFree 42 = .ok (.iconst 0, 1) := by decide +kernel
theorem dX0_isFree_43 : decode cX0_isFree 43 = .ok (.ireturn, 1) := by decide +kernel
set_option maxRecDepth 20000 in
theorem ggX0_wordsMatch_X3_isAddress : GoodIn wsX0_wordsMatch wsX3_isAddress := goodIn_r _ [5, 6, 7, 8, 9, 4, 10, 11, 17, 18, 19] (by decide +kernel) (by decide +kernel)
set_option maxRecDepth 20000 in
theorem gX0_wordsMatch_X3_isAddress : GoodIn wsX0_wordsMatch (wsV RX0 72 RX3 yX3_isAddress wsX3_isAddress) := goodIn_app (goodIn_of _ (by decide +kernel)) ggX0_wordsMatch_X3_isAddress
set_option maxRecDepth 20000 in
theorem ggX0_wordsMatch_X3_valueAt : GoodIn wsX0_wordsMatch wsX3_valueAt := goodIn_r _ [15, 16, 7, 8, 9, 4, 10, 11, 17, 18, 19] (by decide +kernel) (by decide +kernel)
set_option maxRecDepth 20000 in
theorem gX0_wordsMatch_X3_valueAt : GoodIn wsX0_wordsMatch (wsV RX0 76 RX3 yX3_valueAt wsX3_valueAt) := goodIn_app (goodIn_of _ (by decide +kernel)) ggX0_wordsMatch_X3_valueAt
theorem dX0_wordsMatch_0 : decode cX0_wordsMatch 0 = .ok (.aload_n 0, 1) := by decide +kernel
theorem dX0_wordsMatch_1 : decode cX0_wordsMatch 1 = .ok (.iload_n 1, 1) := by decide +kernel
theorem dX0_wordsMatch_2 : decode cX0_wordsMatch 2 = .ok (.invokevirtual 72, 3) := by decide +kernel
theorem dX0_wordsMatch_5 : decode cX0_wordsMatch 5 = .ok (.istore 4, 2) := by decide +kernel
theorem dX0_wordsMatch_7 : decode cX0_wordsMatch 7 = .ok (.iload 4, 2) := by decide +kernel
theorem dX0_wordsMatch_9 : decode cX0_wordsMatch 9 = .ok (.aload_n 2, 1) := by decide +kernel
theorem dX0_wordsMatch_10 : decode cX0_wordsMatch 10 = .ok (.iload_n 3, 1) := by decide +kernel
theorem dX0_wordsMatch_11 : decode cX0_wordsMatch 11 = .ok (.invokevirtual 72, 3) := by decide +kernel
theorem dX0_wordsMatch_14 : decode cX0_wordsMatch 14 = .ok (.if_icmp .eq 5, 3) := by decide +kernel
theorem dX0_wordsMatch_17 : decode cX0_wordsMatch 17 = .ok (.iconst 0, 1) := by decide +kernel
theorem dX0_wordsMatch_18 : decode cX0_wordsMatch 18 = .ok (.ireturn, 1) := by decide +kernel
theorem dX0_wordsMatch_19 : decode cX0_wordsMatch 19 = .ok (.iload 4, 2) := by decide +kernel
theorem dX0_wordsMatch_21 : decode cX0_wordsMatch 21 = .ok (.ifCond .ne 16, 3) := by decide +kernel
theorem dX0_wordsMatch_24 : decode cX0_wordsMatch 24 = .ok (.aload_n 0, 1) := by decide +kernel
theorem dX0_wordsMatch_25 : decode cX0_wordsMatch 25 = .ok (.iload_n 1, 1) := by decide +kernel
theorem dX0_wordsMatch_26 : decode cX0_wordsMatch 26 = .ok (.invokevirtual 76, 3) := by decide +kernel
theorem dX0_wordsMatch_29 : decode cX0_wordsMatch 29 = .ok (.aload_n 2, 1) := by decide +kernel
theorem dX0_wordsMatch_30 : decode cX0_wordsMatch 30 = .ok (.iload_n 3, 1) := by decide +kernel
theorem dX0_wordsMatch_31 : decode cX0_wordsMatch 31 = .ok (.invokevirtual 76, 3) := by decide +kernel
theorem dX0_wordsMatch_34 : decode cX0_wordsMatch 34 = .ok (.if_icmp .ne 7, 3) := by decide +kernel
theorem dX0_wordsMatch_37 : decode cX0_wordsMatch 37 = .ok (.iconst 1, 1) := by decide +kernel
theorem dX0_wordsMatch_38 : decode cX0_wordsMatch 38 = .ok (.goto 4, 3) := by decide +kernel
theorem dX0_wordsMatch_41 : decode cX0_wordsMatch 41 = .ok (.iconst 0, 1) := by decide +kernel
theorem dX0_wordsMatch_42 : decode cX0_wordsMatch 42 = .ok (.ireturn, 1) := by decide +kernel
set_option maxRecDepth 20000 in
theorem ggX0_takeLongestRun_X0_isFree : GoodIn wsX0_takeLongestRun wsX0_isFree := goodIn_r _ [10, 4, 5, 11, 12, 13, 14, 15, 16] (by decide +kernel) (by decide +kernel)
set_option maxRecDepth 20000 in
theorem gX0_takeLongestRun_X0_isFree : GoodIn wsX0_takeLongestRun (wsV RX0 61 RX0 yX0_isFree wsX0_isFree) := goodIn_app (goodIn_of _ (by decide +kernel)) ggX0_takeLongestRun_X0_isFree
theorem dX0_takeLongestRun_0 : decode cX0_takeLongestRun 0 = .ok (.iconst 0, 1) := by decide +kernel
theorem dX0_takeLongestRun_1 : decode cX0_takeLongestRun 1 = .ok (.istore_n 1, 1) := by decide +kernel
theorem dX0_takeLongestRun_2 : decode cX0_takeLongestRun 2 = .ok (.iload_n 1, 1) := by decide +kernel
theorem dX0_takeLongestRun_3 : decode cX0_takeLongestRun 3 = .ok (.aload_n 0, 1) := by decide +kernel
theorem dX0_takeLongestRun_4 : decode cX0_takeLongestRun 4 = .ok (.getfield 29, 3) := by decide +kernel
theorem dX0_takeLongestRun_7 : decode cX0_takeLongestRun 7 = .ok (.if_icmp .ge 52, 3) := by decide +kernel
theorem dX0_takeLongestRun_10 : decode cX0_takeLongestRun 10 = .ok (.aload_n 0, 1) := by decide +kernel
theorem dX0_takeLongestRun_11 : decode cX0_takeLongestRun 11 = .ok (.aload_n 0, 1) := by decide +kernel
theorem dX0_takeLongestRun_12 : decode cX0_takeLongestRun 12 = .ok (.getfield 22, 3) := by decide +kernel
theorem dX0_takeLongestRun_15 : decode cX0_takeLongestRun 15 = .ok (.iload_n 1, 1) := by decide +kernel
theorem dX0_takeLongestRun_16 : decode cX0_takeLongestRun 16 = .ok (.iadd, 1) := by decide +kernel
theorem dX0_takeLongestRun_17 : decode cX0_takeLongestRun 17 = .ok (.aload_n 0, 1) := by decide +kernel
theorem dX0_takeLongestRun_18 : decode cX0_takeLongestRun 18 = .ok (.getfield 26, 3) := by decide +kernel
theorem dX0_takeLongestRun_21 : decode cX0_takeLongestRun 21 = .ok (.iload_n 1, 1) := by decide +kernel
theorem dX0_takeLongestRun_22 : decode cX0_takeLongestRun 22 = .ok (.iadd, 1) := by decide +kernel
theorem dX0_takeLongestRun_23 : decode cX0_takeLongestRun 23 = .ok (.invokevirtual 61, 3) := by decide +kernel
theorem dX0_takeLongestRun_26 : decode cX0_takeLongestRun 26 = .ok (.ifCond .eq 27, 3) := by decide +kernel
theorem dX0_takeLongestRun_29 : decode cX0_takeLongestRun 29 = .ok (.aload_n 0, 1) := by decide +kernel
theorem dX0_takeLongestRun_30 : decode cX0_takeLongestRun 30 = .ok (.getfield 9, 3) := by decide +kernel
theorem dX0_takeLongestRun_33 : decode cX0_takeLongestRun 33 = .ok (.aload_n 0, 1) := by decide +kernel
theorem dX0_takeLongestRun_34 : decode cX0_takeLongestRun 34 = .ok (.getfield 22, 3) := by decide +kernel
theorem dX0_takeLongestRun_37 : decode cX0_takeLongestRun 37 = .ok (.iload_n 1, 1) := by decide +kernel
theorem dX0_takeLongestRun_38 : decode cX0_takeLongestRun 38 = .ok (.iadd, 1) := by decide +kernel
theorem dX0_takeLongestRun_39 : decode cX0_takeLongestRun 39 = .ok (.iconst 1, 1) := by decide +kernel
theorem dX0_takeLongestRun_40 : decode cX0_takeLongestRun 40 = .ok (.bastore, 1) := by decide +kernel
theorem dX0_takeLongestRun_41 : decode cX0_takeLongestRun 41 = .ok (.aload_n 0, 1) := by decide +kernel
theorem dX0_takeLongestRun_42 : decode cX0_takeLongestRun 42 = .ok (.getfield 15, 3) := by decide +kernel
theorem dX0_takeLongestRun_45 : decode cX0_takeLongestRun 45 = .ok (.aload_n 0, 1) := by decide +kernel
theorem dX0_takeLongestRun_46 : decode cX0_takeLongestRun 46 = .ok (.getfield 26, 3) := by decide +kernel
theorem dX0_takeLongestRun_49 : decode cX0_takeLongestRun 49 = .ok (.iload_n 1, 1) := by decide +kernel
theorem dX0_takeLongestRun_50 : decode cX0_takeLongestRun 50 = .ok (.iadd, 1) := by decide +kernel
theorem dX0_takeLongestRun_51 : decode cX0_takeLongestRun 51 = .ok (.iconst 1, 1) := by decide +kernel
theorem dX0_takeLongestRun_52 : decode cX0_takeLongestRun 52 = .ok (.bastore, 1) := by decide +kernel
theorem dX0_takeLongestRun_53 : decode cX0_takeLongestRun 53 = .ok (.iinc 1 1, 3) := by decide +kernel
theorem dX0_takeLongestRun_56 : decode cX0_takeLongestRun 56 = .ok (.goto (-54), 3) := by decide +kernel
theorem dX0_takeLongestRun_59 : decode cX0_takeLongestRun 59 = .ok (.return_, 1) := by decide +kernel
theorem dX1_init_0 : decode cX1_init 0 = .ok (.aload_n 0, 1) := by decide +kernel
theorem dX1_init_1 : decode cX1_init 1 = .ok (.invokespecial 3, 3) := by decide +kernel
theorem dX1_init_4 : decode cX1_init 4 = .ok (.aload_n 0, 1) := by decide +kernel
theorem dX1_init_5 : decode cX1_init 5 = .ok (.bipush 48, 2) := by decide +kernel
theorem dX1_init_7 : decode cX1_init 7 = .ok (.newarray .int, 2) := by decide +kernel
theorem dX1_init_9 : decode cX1_init 9 = .ok (.putfield 9, 3) := by decide +kernel
theorem dX1_init_12 : decode cX1_init 12 = .ok (.aload_n 0, 1) := by decide +kernel
theorem dX1_init_13 : decode cX1_init 13 = .ok (.bipush 48, 2) := by decide +kernel
theorem dX1_init_15 : decode cX1_init 15 = .ok (.newarray .int, 2) := by decide +kernel
theorem dX1_init_17 : decode cX1_init 17 = .ok (.putfield 15, 3) := by decide +kernel
theorem dX1_init_20 : decode cX1_init 20 = .ok (.aload_n 0, 1) := by decide +kernel
theorem dX1_init_21 : decode cX1_init 21 = .ok (.bipush 48, 2) := by decide +kernel
theorem dX1_init_23 : decode cX1_init 23 = .ok (.newarray .int, 2) := by decide +kernel
theorem dX1_init_25 : decode cX1_init 25 = .ok (.putfield 18, 3) := by decide +kernel
theorem dX1_init_28 : decode cX1_init 28 = .ok (.aload_n 0, 1) := by decide +kernel
theorem dX1_init_29 : decode cX1_init 29 = .ok (.iconst 0, 1) := by decide +kernel
theorem dX1_init_30 : decode cX1_init 30 = .ok (.putfield 21, 3) := by decide +kernel
theorem dX1_init_33 : decode cX1_init 33 = .ok (.return_, 1) := by decide +kernel
theorem dX1_size_0 : decode cX1_size 0 = .ok (.aload_n 0, 1) := by decide +kernel
theorem dX1_size_1 : decode cX1_size 1 = .ok (.getfield 21, 3) := by decide +kernel
theorem dX1_size_4 : decode cX1_size 4 = .ok (.ireturn, 1) := by decide +kernel
theorem dX1_has_0 : decode cX1_has 0 = .ok (.iload_n 1, 1) := by decide +kernel
theorem dX1_has_1 : decode cX1_has 1 = .ok (.ifCond .lt 15, 3) := by decide +kernel
theorem dX1_has_4 : decode cX1_has 4 = .ok (.iload_n 1, 1) := by decide +kernel
theorem dX1_has_5 : decode cX1_has 5 = .ok (.aload_n 0, 1) := by decide +kernel
theorem dX1_has_6 : decode cX1_has 6 = .ok (.getfield 21, 3) := by decide +kernel
theorem dX1_has_9 : decode cX1_has 9 = .ok (.if_icmp .ge 7, 3) := by decide +kernel
theorem dX1_has_12 : decode cX1_has 12 = .ok (.iconst 1, 1) := by decide +kernel
theorem dX1_has_13 : decode cX1_has 13 = .ok (.goto 4, 3) := by decide +kernel
theorem dX1_has_16 : decode cX1_has 16 = .ok (.iconst 0, 1) := by decide +kernel
theorem dX1_has_17 : decode cX1_has 17 = .ok (.ireturn, 1) := by decide +kernel
set_option maxRecDepth 20000 in
theorem ggX1_oldStart_X1_has : GoodIn wsX1_oldStart wsX1_has := goodIn_r _ [6, 7, 8, 9, 10, 11] (by decide +kernel) (by decide +kernel)
set_option maxRecDepth 20000 in
theorem gX1_oldStart_X1_has : GoodIn wsX1_oldStart (wsV RX1 25 RX1 yX1_has wsX1_has) := goodIn_app (goodIn_of _ (by decide +kernel)) ggX1_oldStart_X1_has
theorem dX1_oldStart_0 : decode cX1_oldStart 0 = .ok (.aload_n 0, 1) := by decide +kernel
theorem dX1_oldStart_1 : decode cX1_oldStart 1 = .ok (.iload_n 1, 1) := by decide +kernel
theorem dX1_oldStart_2 : decode cX1_oldStart 2 = .ok (.invokevirtual 25, 3) := by decide +kernel
theorem dX1_oldStart_5 : decode cX1_oldStart 5 = .ok (.ifCond .eq 12, 3) := by decide +kernel
theorem dX1_oldStart_8 : decode cX1_oldStart 8 = .ok (.aload_n 0, 1) := by decide +kernel
theorem dX1_oldStart_9 : decode cX1_oldStart 9 = .ok (.getfield 9, 3) := by decide +kernel
theorem dX1_oldStart_12 : decode cX1_oldStart 12 = .ok (.iload_n 1, 1) := by decide +kernel
theorem dX1_oldStart_13 : decode cX1_oldStart 13 = .ok (.iaload, 1) := by decide +kernel
theorem dX1_oldStart_14 : decode cX1_oldStart 14 = .ok (.goto 4, 3) := by decide +kernel
theorem dX1_oldStart_17 : decode cX1_oldStart 17 = .ok (.iconst 0, 1) := by decide +kernel
theorem dX1_oldStart_18 : decode cX1_oldStart 18 = .ok (.ireturn, 1) := by decide +kernel
set_option maxRecDepth 20000 in
theorem ggX1_newStart_X1_has : GoodIn wsX1_newStart wsX1_has := goodIn_r _ [6, 7, 8, 9, 10, 11] (by decide +kernel) (by decide +kernel)
set_option maxRecDepth 20000 in
theorem gX1_newStart_X1_has : GoodIn wsX1_newStart (wsV RX1 25 RX1 yX1_has wsX1_has) := goodIn_app (goodIn_of _ (by decide +kernel)) ggX1_newStart_X1_has
theorem dX1_newStart_0 : decode cX1_newStart 0 = .ok (.aload_n 0, 1) := by decide +kernel
theorem dX1_newStart_1 : decode cX1_newStart 1 = .ok (.iload_n 1, 1) := by decide +kernel
theorem dX1_newStart_2 : decode cX1_newStart 2 = .ok (.invokevirtual 25, 3) := by decide +kernel
theorem dX1_newStart_5 : decode cX1_newStart 5 = .ok (.ifCond .eq 12, 3) := by decide +kernel
theorem dX1_newStart_8 : decode cX1_newStart 8 = .ok (.aload_n 0, 1) := by decide +kernel
theorem dX1_newStart_9 : decode cX1_newStart 9 = .ok (.getfield 15, 3) := by decide +kernel
theorem dX1_newStart_12 : decode cX1_newStart 12 = .ok (.iload_n 1, 1) := by decide +kernel
theorem dX1_newStart_13 : decode cX1_newStart 13 = .ok (.iaload, 1) := by decide +kernel
theorem dX1_newStart_14 : decode cX1_newStart 14 = .ok (.goto 4, 3) := by decide +kernel
theorem dX1_newStart_17 : decode cX1_newStart 17 = .ok (.iconst 0, 1) := by decide +kernel
theorem dX1_newStart_18 : decode cX1_newStart 18 = .ok (.ireturn, 1) := by decide +kernel
set_option maxRecDepth 20000 in
theorem ggX1_length_X1_has : GoodIn wsX1_length wsX1_has := goodIn_r _ [6, 7, 8, 9, 10, 11] (by decide +kernel) (by decide +kernel)
set_option maxRecDepth 20000 in
theorem gX1_length_X1_has : GoodIn wsX1_length (wsV RX1 25 RX1 yX1_has wsX1_has) := goodIn_app (goodIn_of _ (by decide +kernel)) ggX1_length_X1_has
theorem dX1_length_0 : decode cX1_length 0 = .ok (.aload_n 0, 1) := by decide +kernel
theorem dX1_length_1 : decode cX1_length 1 = .ok (.iload_n 1, 1) := by decide +kernel
theorem dX1_length_2 : decode cX1_length 2 = .ok (.invokevirtual 25, 3) := by decide +kernel
theorem dX1_length_5 : decode cX1_length 5 = .ok (.ifCond .eq 12, 3) := by decide +kernel
theorem dX1_length_8 : decode cX1_length 8 = .ok (.aload_n 0, 1) := by decide +kernel
theorem dX1_length_9 : decode cX1_length 9 = .ok (.getfield 18, 3) := by decide +kernel
theorem dX1_length_12 : decode cX1_length 12 = .ok (.iload_n 1, 1) := by decide +kernel
theorem dX1_length_13 : decode cX1_length 13 = .ok (.iaload, 1) := by decide +kernel
theorem dX1_length_14 : decode cX1_length 14 = .ok (.goto 4, 3) := by decide +kernel
theorem dX1_length_17 : decode cX1_length 17 = .ok (.iconst 0, 1) := by decide +kernel
theorem dX1_length_18 : decode cX1_length 18 = .ok (.ireturn, 1) := by decide +kernel
set_option maxRecDepth 20000 in
theorem ggX1_oldIndex_X1_newStart : GoodIn wsX1_oldIndex wsX1_newStart := goodIn_r _ [5, 6, 7, 8, 9, 4, 10, 11, 17, 18, 19, 20] (by decide +kernel) (by decide +kernel)
set_option maxRecDepth 20000 in
theorem gX1_oldIndex_X1_newStart : GoodIn wsX1_oldIndex (wsV RX1 29 RX1 yX1_newStart wsX1_newStart) := goodIn_app (goodIn_of _ (by decide +kernel)) ggX1_oldIndex_X1_newStart
set_option maxRecDepth 20000 in
theorem ggX1_oldIndex_X1_oldStart : GoodIn wsX1_oldIndex wsX1_oldStart := goodIn_r _ [15, 16, 7, 8, 9, 4, 10, 11, 17, 18, 19, 20] (by decide +kernel) (by decide +kernel)
set_option maxRecDepth 20000 in
theorem gX1_oldIndex_X1_oldStart : GoodIn wsX1_oldIndex (wsV RX1 33 RX1 yX1_oldStart wsX1_oldStart) := goodIn_app (goodIn_of _ (by decide +kernel)) ggX1_oldIndex_X1_oldStart
theorem dX1_oldIndex_0 : decode cX1_oldIndex 0 = .ok (.iload_n 2, 1) := by decide +kernel
theorem dX1_oldIndex_1 : decode cX1_oldIndex 1 = .ok (.aload_n 0, 1) := by decide +kernel
theorem dX1_oldIndex_2 : decode cX1_oldIndex 2 = .ok (.iload_n 1, 1) := by decide +kernel
theorem dX1_oldIndex_3 : decode cX1_oldIndex 3 = .ok (.invokevirtual 29, 3) := by decide +kernel
theorem dX1_oldIndex_6 : decode cX1_oldIndex 6 = .ok (.isub, 1) := by decide +kernel
theorem dX1_oldIndex_7 : decode cX1_oldIndex 7 = .ok (.aload_n 0, 1) := by decide +kernel
theorem dX1_oldIndex_8 : decode cX1_oldIndex 8 = .ok (.iload_n 1, 1) := by decide +kernel
theorem dX1_oldIndex_9 : decode cX1_oldIndex 9 = .ok (.invokevirtual 33, 3) := by decide +kernel
theorem dX1_oldIndex_12 : decode cX1_oldIndex 12 = .ok (.iadd, 1) := by decide +kernel
theorem dX1_oldIndex_13 : decode cX1_oldIndex 13 = .ok (.ireturn, 1) := by decide +kernel
set_option maxRecDepth 20000 in
theorem ggX1_covers_X1_newStart : GoodIn wsX1_covers wsX1_newStart := goodIn_r _ [5, 6, 7, 8, 9, 4, 10, 11, 17, 18, 19, 20] (by decide +kernel) (by decide +kernel)
set_option maxRecDepth 20000 in
theorem gX1_covers_X1_newStart : GoodIn wsX1_covers (wsV RX1 29 RX1 yX1_newStart wsX1_newStart) := goodIn_app (goodIn_of _ (by decide +kernel)) ggX1_covers_X1_newStart
set_option maxRecDepth 20000 in
theorem ggX1_covers_X1_length : GoodIn wsX1_covers wsX1_length := goodIn_r _ [15, 16, 7, 8, 9, 4, 10, 11, 17, 18, 19, 20] (by decide +kernel) (by decide +kernel)
set_option maxRecDepth 20000 in
theorem gX1_covers_X1_length : GoodIn wsX1_covers (wsV RX1 36 RX1 yX1_length wsX1_length) := goodIn_app (goodIn_of _ (by decide +kernel)) ggX1_covers_X1_length
theorem dX1_covers_0 : decode cX1_covers 0 = .ok (.aload_n 0, 1) := by decide +kernel
theorem dX1_covers_1 : decode cX1_covers 1 = .ok (.iload_n 1, 1) := by decide +kernel
theorem dX1_covers_2 : decode cX1_covers 2 = .ok (.invokevirtual 29, 3) := by decide +kernel
theorem dX1_covers_5 : decode cX1_covers 5 = .ok (.istore_n 3, 1) := by decide +kernel
theorem dX1_covers_6 : decode cX1_covers 6 = .ok (.iload_n 2, 1) := by decide +kernel
theorem dX1_covers_7 : decode cX1_covers 7 = .ok (.iload_n 3, 1) := by decide +kernel
theorem dX1_covers_8 : decode cX1_covers 8 = .ok (.if_icmp .lt 18, 3) := by decide +kernel
theorem dX1_covers_11 : decode cX1_covers 11 = .ok (.iload_n 2, 1) := by decide +kernel
theorem dX1_covers_12 : decode cX1_covers 12 = .ok (.iload_n 3, 1) := by decide +kernel
theorem dX1_covers_13 : decode cX1_covers 13 = .ok (.aload_n 0, 1) := by decide +kernel
theorem dX1_covers_14 : decode cX1_covers 14 = .ok (.iload_n 1, 1) := by decide +kernel
theorem dX1_covers_15 : decode cX1_covers 15 = .ok (.invokevirtual 36, 3) := by decide +kernel
theorem dX1_covers_18 : decode cX1_covers 18 = .ok (.iadd, 1) := by decide +kernel
theorem dX1_covers_19 : decode cX1_covers 19 = .ok (.if_icmp .ge 7, 3) := by decide +kernel
theorem dX1_covers_22 : decode cX1_covers 22 = .ok (.iconst 1, 1) := by decide +kernel
theorem dX1_covers_23 : decode cX1_covers 23 = .ok (.goto 4, 3) := by decide +kernel
theorem dX1_covers_26 : decode cX1_covers 26 = .ok (.iconst 0, 1) := by decide +kernel
theorem dX1_covers_27 : decode cX1_covers 27 = .ok (.ireturn, 1) := by decide +kernel
set_option maxRecDepth 20000 in
theorem ggX1_withNewIndex_X1_covers : GoodIn wsX1_withNewIndex wsX1_covers := goodIn_r _ [6, 7, 8, 9, 5, 10, 11, 12, 13, 14, 15, 1, 16, 17, 18, 19, 20, 21, 22, 23, 24] (by decide +kernel) (by decide +kernel)
set_option maxRecDepth 20000 in
theorem gX1_withNewIndex_X1_covers : GoodIn wsX1_withNewIndex (wsV RX1 39 RX1 yX1_covers wsX1_covers) := goodIn_app (goodIn_of _ (by decide +kernel)) ggX1_withNewIndex_X1_covers
theorem dX1_withNewIndex_0 : decode cX1_withNewIndex 0 = .ok (.iconst 0, 1) := by decide +kernel
theorem dX1_withNewIndex_1 : decode cX1_withNewIndex 1 = .ok (.istore_n 2, 1) := by decide +kernel
theorem dX1_withNewIndex_2 : decode cX1_withNewIndex 2 = .ok (.iload_n 2, 1) := by decide +kernel
theorem dX1_withNewIndex_3 : decode cX1_withNewIndex 3 = .ok (.aload_n 0, 1) := by decide +kernel
theorem dX1_withNewIndex_4 : decode cX1_withNewIndex 4 = .ok (.getfield 21, 3) := by decide +kernel
theorem dX1_withNewIndex_7 : decode cX1_withNewIndex 7 = .ok (.if_icmp .ge 20, 3) := by decide +kernel
theorem dX1_withNewIndex_10 : decode cX1_withNewIndex 10 = .ok (.aload_n 0, 1) := by decide +kernel
theorem dX1_withNewIndex_11 : decode cX1_withNewIndex 11 = .ok (.iload_n 2, 1) := by decide +kernel
theorem dX1_withNewIndex_12 : decode cX1_withNewIndex 12 = .ok (.iload_n 1, 1) := by decide +kernel
theorem dX1_withNewIndex_13 : decode cX1_withNewIndex 13 = .ok (.invokevirtual 39, 3) := by decide +kernel
theorem dX1_withNewIndex_16 : decode cX1_withNewIndex 16 = .ok (.ifCond .eq 5, 3) := by decide +kernel
theorem dX1_withNewIndex_19 : decode cX1_withNewIndex 19 = .ok (.iload_n 2, 1) := by decide +kernel
theorem dX1_withNewIndex_20 : decode cX1_withNewIndex 20 = .ok (.ireturn, 1) := by decide +kernel
theorem dX1_withNewIndex_21 : decode cX1_withNewIndex 21 = .ok (.iinc 2 1, 3) := by decide +kernel
theorem dX1_withNewIndex_24 : decode cX1_withNewIndex 24 = .ok (.goto (-22), 3) := by decide +kernel
theorem dX1_withNewIndex_27 : decode cX1_withNewIndex 27 = .ok (.iconst (-1), 1) := by decide +kernel
theorem dX1_withNewIndex_28 : decode cX1_withNewIndex 28 = .ok (.ireturn, 1) := by decide +kernel
set_option maxRecDepth 20000 in
theorem ggX1_moved_X1_oldStart : GoodIn wsX1_moved wsX1_oldStart := goodIn_r _ [6, 7, 8, 9, 10, 5, 11, 1, 17, 18, 19, 20] (by decide +kernel) (by decide +kernel)
set_option maxRecDepth 20000 in
theorem gX1_moved_X1_oldStart : GoodIn wsX1_moved (wsV RX1 33 RX1 yX1_oldStart wsX1_oldStart) := goodIn_app (goodIn_of _ (by decide +kernel)) ggX1_moved_X1_oldStart
set_option maxRecDepth 20000 in
theorem ggX1_moved_X1_newStart : GoodIn wsX1_moved wsX1_newStart := goodIn_r _ [15, 16, 8, 9, 10, 5, 11, 1, 17, 18, 19, 20] (by decide +kernel) (by decide +kernel)
set_option maxRecDepth 20000 in
theorem gX1_moved_X1_newStart : GoodIn wsX1_moved (wsV RX1 29 RX1 yX1_newStart wsX1_newStart) := goodIn_app (goodIn_of _ (by decide +kernel)) ggX1_moved_X1_newStart
theorem dX1_moved_0 : decode cX1_moved 0 = .ok (.iconst (-1), 1) := by decide +kernel
theorem dX1_moved_1 : decode cX1_moved 1 = .ok (.istore_n 2, 1) := by decide +kernel
theorem dX1_moved_2 : decode cX1_moved 2 = .ok (.iconst 0, 1) := by decide +kernel
theorem dX1_moved_3 : decode cX1_moved 3 = .ok (.istore_n 3, 1) := by decide +kernel
theorem dX1_moved_4 : decode cX1_moved 4 = .ok (.iload_n 3, 1) := by decide +kernel
theorem dX1_moved_5 : decode cX1_moved 5 = .ok (.aload_n 0, 1) := by decide +kernel
theorem dX1_moved_6 : decode cX1_moved 6 = .ok (.getfield 21, 3) := by decide +kernel
theorem dX1_moved_9 : decode cX1_moved 9 = .ok (.if_icmp .ge 39, 3) := by decide +kernel
theorem dX1_moved_12 : decode cX1_moved 12 = .ok (.aload_n 0, 1) := by decide +kernel
theorem dX1_moved_13 : decode cX1_moved 13 = .ok (.iload_n 3, 1) := by decide +kernel
theorem dX1_moved_14 : decode cX1_moved 14 = .ok (.invokevirtual 33, 3) := by decide +kernel
theorem dX1_moved_17 : decode cX1_moved 17 = .ok (.istore 4, 2) := by decide +kernel
theorem dX1_moved_19 : decode cX1_moved 19 = .ok (.iload 4, 2) := by decide +kernel
theorem dX1_moved_21 : decode cX1_moved 21 = .ok (.iload_n 1, 1) := by decide +kernel
theorem dX1_moved_22 : decode cX1_moved 22 = .ok (.if_icmp .gt 20, 3) := by decide +kernel
theorem dX1_moved_25 : decode cX1_moved 25 = .ok (.iload_n 2, 1) := by decide +kernel
theorem dX1_moved_26 : decode cX1_moved 26 = .ok (.iconst (-1), 1) := by decide +kernel
theorem dX1_moved_27 : decode cX1_moved 27 = .ok (.if_icmp .eq 13, 3) := by decide +kernel
theorem dX1_moved_30 : decode cX1_moved 30 = .ok (.iload 4, 2) := by decide +kernel
theorem dX1_moved_32 : decode cX1_moved 32 = .ok (.aload_n 0, 1) := by decide +kernel
theorem dX1_moved_33 : decode cX1_moved 33 = .ok (.iload_n 2, 1) := by decide +kernel
theorem dX1_moved_34 : decode cX1_moved 34 = .ok (.invokevirtual 33, 3) := by decide +kernel
theorem dX1_moved_37 : decode cX1_moved 37 = .ok (.if_icmp .le 5, 3) := by decide +kernel
theorem dX1_moved_40 : decode cX1_moved 40 = .ok (.iload_n 3, 1) := by decide +kernel
theorem dX1_moved_41 : decode cX1_moved 41 = .ok (.istore_n 2, 1) := by decide +kernel
theorem dX1_moved_42 : decode cX1_moved 42 = .ok (.iinc 3 1, 3) := by decide +kernel
theorem dX1_moved_45 : decode cX1_moved 45 = .ok (.goto (-41), 3) := by decide +kernel
theorem dX1_moved_48 : decode cX1_moved 48 = .ok (.iload_n 2, 1) := by decide +kernel
theorem dX1_moved_49 : decode cX1_moved 49 = .ok (.iconst (-1), 1) := by decide +kernel
theorem dX1_moved_50 : decode cX1_moved 50 = .ok (.if_icmp .ne 7, 3) := by decide +kernel
theorem dX1_moved_53 : decode cX1_moved 53 = .ok (.iload_n 1, 1) := by decide +kernel
theorem dX1_moved_54 : decode cX1_moved 54 = .ok (.goto 16, 3) := by decide +kernel
theorem dX1_moved_57 : decode cX1_moved 57 = .ok (.iload_n 1, 1) := by decide +kernel
theorem dX1_moved_58 : decode cX1_moved 58 = .ok (.aload_n 0, 1) := by decide +kernel
theorem dX1_moved_59 : decode cX1_moved 59 = .ok (.iload_n 2, 1) := by decide +kernel
theorem dX1_moved_60 : decode cX1_moved 60 = .ok (.invokevirtual 29, 3) := by decide +kernel
theorem dX1_moved_63 : decode cX1_moved 63 = .ok (.iadd, 1) := by decide +kernel
theorem dX1_moved_64 : decode cX1_moved 64 = .ok (.aload_n 0, 1) := by decide +kernel
theorem dX1_moved_65 : decode cX1_moved 65 = .ok (.iload_n 2, 1) := by decide +kernel
theorem dX1_moved_66 : decode cX1_moved 66 = .ok (.invokevirtual 33, 3) := by decide +kernel
theorem dX1_moved_69 : decode cX1_moved 69 = .ok (.isub, 1) := by decide +kernel
theorem dX1_moved_70 : decode cX1_moved 70 = .ok (.ireturn, 1) := by decide +kernel
set_option maxRecDepth 20000 in
theorem ggX1_mustGoBefore_X1_newStart : GoodIn wsX1_mustGoBefore wsX1_newStart := goodIn_r _ [5, 6, 7, 8, 9, 4, 10, 11, 22, 23, 24, 25] (by decide +kernel) (by decide +kernel)
set_option maxRecDepth 20000 in
theorem gX1_mustGoBefore_X1_newStart : GoodIn wsX1_mustGoBefore (wsV RX1 29 RX1 yX1_newStart wsX1_newStart) := goodIn_app (goodIn_of _ (by decide +kernel)) ggX1_mustGoBefore_X1_newStart
set_option maxRecDepth 20000 in
theorem ggX1_mustGoBefore_X1_oldStart : GoodIn wsX1_mustGoBefore wsX1_oldStart := goodIn_r _ [15, 16, 7, 8, 9, 4, 10, 11, 22, 23, 24, 25] (by decide +kernel) (by decide +kernel)
set_option maxRecDepth 20000 in
theorem gX1_mustGoBefore_X1_oldStart : GoodIn wsX1_mustGoBefore (wsV RX1 33 RX1 yX1_oldStart wsX1_oldStart) := goodIn_app (goodIn_of _ (by decide +kernel)) ggX1_mustGoBefore_X1_oldStart
set_option maxRecDepth 20000 in
theorem ggX1_mustGoBefore_X1_length : GoodIn wsX1_mustGoBefore wsX1_length := goodIn_r _ [20, 21, 7, 8, 9, 4, 10, 11, 22, 23, 24, 25] (by decide +kernel) (by decide +kernel)
set_option maxRecDepth 20000 in
theorem gX1_mustGoBefore_X1_length : GoodIn wsX1_mustGoBefore (wsV RX1 36 RX1 yX1_length wsX1_length) := goodIn_app (goodIn_of _ (by decide +kernel)) ggX1_mustGoBefore_X1_length
theorem dX1_mustGoBefore_0 : decode cX1_mustGoBefore 0 = .ok (.iload_n 1, 1) := by decide +kernel
theorem dX1_mustGoBefore_1 : decode cX1_mustGoBefore 1 = .ok (.iload_n 2, 1) := by decide +kernel
theorem dX1_mustGoBefore_2 : decode cX1_mustGoBefore 2 = .ok (.if_icmp .eq 45, 3) := by decide +kernel
theorem dX1_mustGoBefore_5 : decode cX1_mustGoBefore 5 = .ok (.aload_n 0, 1) := by decide +kernel
theorem dX1_mustGoBefore_6 : decode cX1_mustGoBefore 6 = .ok (.iload_n 2, 1) := by decide +kernel
theorem dX1_mustGoBefore_7 : decode cX1_mustGoBefore 7 = .ok (.invokevirtual 29, 3) := by decide +kernel
theorem dX1_mustGoBefore_10 : decode cX1_mustGoBefore 10 = .ok (.aload_n 0, 1) := by decide +kernel
theorem dX1_mustGoBefore_11 : decode cX1_mustGoBefore 11 = .ok (.iload_n 1, 1) := by decide +kernel
theorem dX1_mustGoBefore_12 : decode cX1_mustGoBefore 12 = .ok (.invokevirtual 33, 3) := by decide +kernel
theorem dX1_mustGoBefore_15 : decode cX1_mustGoBefore 15 = .ok (.aload_n 0, 1) := by decide +kernel
theorem dX1_mustGoBefore_16 : decode cX1_mustGoBefore 16 = .ok (.iload_n 1, 1) := by decide +kernel
theorem dX1_mustGoBefore_17 : decode cX1_mustGoBefore 17 = .ok (.invokevirtual 36, 3) := by decide +kernel
theorem dX1_mustGoBefore_20 : decode cX1_mustGoBefore 20 = .ok (.iadd, 1) := by decide +kernel
theorem dX1_mustGoBefore_21 : decode cX1_mustGoBefore 21 = .ok (.if_icmp .ge 26, 3) := by decide +kernel
theorem dX1_mustGoBefore_24 : decode cX1_mustGoBefore 24 = .ok (.aload_n 0, 1) := by decide +kernel
theorem dX1_mustGoBefore_25 : decode cX1_mustGoBefore 25 = .ok (.iload_n 1, 1) := by decide +kernel
theorem dX1_mustGoBefore_26 : decode cX1_mustGoBefore 26 = .ok (.invokevirtual 33, 3) := by decide +kernel
theorem dX1_mustGoBefore_29 : decode cX1_mustGoBefore 29 = .ok (.aload_n 0, 1) := by decide +kernel
theorem dX1_mustGoBefore_30 : decode cX1_mustGoBefore 30 = .ok (.iload_n 2, 1) := by decide +kernel
theorem dX1_mustGoBefore_31 : decode cX1_mustGoBefore 31 = .ok (.invokevirtual 29, 3) := by decide +kernel
theorem dX1_mustGoBefore_34 : decode cX1_mustGoBefore 34 = .ok (.aload_n 0, 1) := by decide +kernel
theorem dX1_mustGoBefore_35 : decode cX1_mustGoBefore 35 = .ok (.iload_n 2, 1) := by decide +kernel
theorem dX1_mustGoBefore_36 : decode cX1_mustGoBefore 36 = .ok (.invokevirtual 36, 3) := by decide +kernel
theorem dX1_mustGoBefore_39 : decode cX1_mustGoBefore 39 = .ok (.iadd, 1) := by decide +kernel
theorem dX1_mustGoBefore_40 : decode cX1_mustGoBefore 40 = .ok (.if_icmp .ge 7, 3) := by decide +kernel
theorem dX1_mustGoBefore_43 : decode cX1_mustGoBefore 43 = .ok (.iconst 1, 1) := by decide +kernel
theorem dX1_mustGoBefore_44 : decode cX1_mustGoBefore 44 = .ok (.goto 4, 3) := by decide +kernel
theorem dX1_mustGoBefore_47 : decode cX1_mustGoBefore 47 = .ok (.iconst 0, 1) := by decide +kernel
theorem dX1_mustGoBefore_48 : decode cX1_mustGoBefore 48 = .ok (.ireturn, 1) := by decide +kernel
theorem dX1_removeAll_0 : decode cX1_removeAll 0 = .ok (.aload_n 0, 1) := by decide +kernel
theorem dX1_removeAll_1 : decode cX1_removeAll 1 = .ok (.iconst 0, 1) := by decide +kernel
theorem dX1_removeAll_2 : decode cX1_removeAll 2 = .ok (.putfield 21, 3) := by decide +kernel
theorem dX1_removeAll_5 : decode cX1_removeAll 5 = .ok (.return_, 1) := by decide +kernel
theorem dX1_insert_0 : decode cX1_insert 0 = .ok (.aload_n 0, 1) := by decide +kernel
theorem dX1_insert_1 : decode cX1_insert 1 = .ok (.getfield 21, 3) := by decide +kernel
theorem dX1_insert_4 : decode cX1_insert 4 = .ok (.bipush 48, 2) := by decide +kernel
theorem dX1_insert_6 : decode cX1_insert 6 = .ok (.if_icmp .lt 4, 3) := by decide +kernel
theorem dX1_insert_9 : decode cX1_insert 9 = .ok (.return_, 1) := by decide +kernel
theorem dX1_insert_10 : decode cX1_insert 10 = .ok (.aload_n 0, 1) := by decide +kernel
theorem dX1_insert_11 : decode cX1_insert 11 = .ok (.getfield 21, 3) := by decide +kernel
theorem dX1_insert_14 : decode cX1_insert 14 = .ok (.istore 4, 2) := by decide +kernel
theorem dX1_insert_16 : decode cX1_insert 16 = .ok (.iload 4, 2) := by decide +kernel
theorem dX1_insert_18 : decode cX1_insert 18 = .ok (.ifCond .le 70, 3) := by decide +kernel
theorem dX1_insert_21 : decode cX1_insert 21 = .ok (.aload_n 0, 1) := by decide +kernel
theorem dX1_insert_22 : decode cX1_insert 22 = .ok (.getfield 15, 3) := by decide +kernel
theorem dX1_insert_25 : decode cX1_insert 25 = .ok (.iload 4, 2) := by decide +kernel
theorem dX1_insert_27 : decode cX1_insert 27 = .ok (.iconst 1, 1) := by decide +kernel
theorem dX1_insert_28 : decode cX1_insert 28 = .ok (.isub, 1) := by decide +kernel
theorem dX1_insert_29 : decode cX1_insert 29 = .ok (.iaload, 1) := by decide +kernel
theorem dX1_insert_30 : decode cX1_insert 30 = .ok (.iload_n 2, 1) := by decide +kernel
theorem dX1_insert_31 : decode cX1_insert 31 = .ok (.if_icmp .le 57, 3) := by decide +kernel
theorem dX1_insert_34 : decode cX1_insert 34 = .ok (.aload_n 0, 1) := by decide +kernel
theorem dX1_insert_35 : decode cX1_insert 35 = .ok (.getfield 9, 3) := by decide +kernel
theorem dX1_insert_38 : decode cX1_insert 38 = .ok (.iload 4, 2) := by decide +kernel
theorem dX1_insert_40 : decode cX1_insert 40 = .ok (.aload_n 0, 1) := by decide +kernel
theorem dX1_insert_41 : decode cX1_insert 41 = .ok (.getfield 9, 3) := by decide +kernel
theorem dX1_insert_44 : decode cX1_insert 44 = .ok (.iload 4, 2) := by decide +kernel
theorem dX1_insert_46 : decode cX1_insert 46 = .ok (.iconst 1, 1) := by decide +kernel
theorem dX1_insert_47 : decode cX1_insert 47 = .ok (.isub, 1) := by decide +kernel
theorem dX1_insert_48 : decode cX1_insert 48 = .ok (.iaload, 1) := by decide +kernel
theorem dX1_insert_49 : decode cX1_insert 49 = .ok (.iastore, 1) := by decide +kernel
theorem dX1_insert_50 : decode cX1_insert 50 = .ok (.aload_n 0, 1) := by decide +kernel
theorem dX1_insert_51 : decode cX1_insert 51 = .ok (.getfield 15, 3) := by decide +kernel
theorem dX1_insert_54 : decode cX1_insert 54 = .ok (.iload 4, 2) := by decide +kernel
theorem dX1_insert_56 : decode cX1_insert 56 = .ok (.aload_n 0, 1) := by decide +kernel
theorem dX1_insert_57 : decode cX1_insert 57 = .ok (.getfield 15, 3) := by decide +kernel
theorem dX1_insert_60 : decode cX1_insert 60 = .ok (.iload 4, 2) := by decide +kernel
theorem dX1_insert_62 : decode cX1_insert 62 = .ok (.iconst 1, 1) := by decide +kernel
theorem dX1_insert_63 : decode cX1_insert 63 = .ok (.isub, 1) := by decide +kernel
theorem dX1_insert_64 : decode cX1_insert 64 = .ok (.iaload, 1) := by decide +kernel
theorem dX1_insert_65 : decode cX1_insert 65 = .ok (.iastore, 1) := by decide +kernel
theorem dX1_insert_66 : decode cX1_insert 66 = .ok (.aload_n 0, 1) := by decide +kernel
theorem dX1_insert_67 : decode cX1_insert 67 = .ok (.getfield 18, 3) := by decide +kernel
theorem dX1_insert_70 : decode cX1_insert 70 = .ok (.iload 4, 2) := by decide +kernel
theorem dX1_insert_72 : decode cX1_insert 72 = .ok (.aload_n 0, 1) := by decide +kernel
theorem dX1_insert_73 : decode cX1_insert 73 = .ok (.getfield 18, 3) := by decide +kernel
theorem dX1_insert_76 : decode cX1_insert 76 = .ok (.iload 4, 2) := by decide +kernel
theorem dX1_insert_78 : decode cX1_insert 78 = .ok (.iconst 1, 1) := by decide +kernel
theorem dX1_insert_79 : decode cX1_insert 79 = .ok (.isub, 1) := by decide +kernel
theorem dX1_insert_80 : decode cX1_insert 80 = .ok (.iaload, 1) := by decide +kernel
theorem dX1_insert_81 : decode cX1_insert 81 = .ok (.iastore, 1) := by decide +kernel
theorem dX1_insert_82 : decode cX1_insert 82 = .ok (.iinc 4 (-1), 3) := by decide +kernel
theorem dX1_insert_85 : decode cX1_insert 85 = .ok (.goto (-69), 3) := by decide +kernel
theorem dX1_insert_88 : decode cX1_insert 88 = .ok (.aload_n 0, 1) := by decide +kernel
theorem dX1_insert_89 : decode cX1_insert 89 = .ok (.getfield 9, 3) := by decide +kernel
theorem dX1_insert_92 : decode cX1_insert 92 = .ok (.iload 4, 2) := by decide +kernel
theorem dX1_insert_94 : decode cX1_insert 94 = .ok (.iload_n 1, 1) := by decide +kernel
theorem dX1_insert_95 : decode cX1_insert 95 = .ok (.iastore, 1) := by decide +kernel
theorem dX1_insert_96 : decode cX1_insert 96 = .ok (.aload_n 0, 1) := by decide +kernel
theorem dX1_insert_97 : decode cX1_insert 97 = .ok (.getfield 15, 3) := by decide +kernel
theorem dX1_insert_100 : decode cX1_insert 100 = .ok (.iload 4, 2) := by decide +kernel
theorem dX1_insert_102 : decode cX1_insert 102 = .ok (.iload_n 2, 1) := by decide +kernel
theorem dX1_insert_103 : decode cX1_insert 103 = .ok (.iastore, 1) := by decide +kernel
theorem dX1_insert_104 : decode cX1_insert 104 = .ok (.aload_n 0, 1) := by decide +kernel
theorem dX1_insert_105 : decode cX1_insert 105 = .ok (.getfield 18, 3) := by decide +kernel
theorem dX1_insert_108 : decode cX1_insert 108 = .ok (.iload 4, 2) := by decide +kernel
theorem dX1_insert_110 : decode cX1_insert 110 = .ok (.iload_n 3, 1) := by decide +kernel
theorem dX1_insert_111 : decode cX1_insert 111 = .ok (.iastore, 1) := by decide +kernel
theorem dX1_insert_112 : decode cX1_insert 112 = .ok (.aload_n 0, 1) := by decide +kernel
theorem dX1_insert_113 : decode cX1_insert 113 = .ok (.dup, 1) := by decide +kernel
theorem dX1_insert_114 : decode cX1_insert 114 = .ok (.getfield 21, 3) := by decide +kernel
theorem dX1_insert_117 : decode cX1_insert 117 = .ok (.iconst 1, 1) := by decide +kernel
theorem dX1_insert_118 : decode cX1_insert 118 = .ok (.iadd, 1) := by decide +kernel
theorem dX1_insert_119 : decode cX1_insert 119 = .ok (.putfield 21, 3) := by decide +kernel
theorem dX1_insert_122 : decode cX1_insert 122 = .ok (.return_, 1) := by decide +kernel
theorem dX2_init_0 : decode cX2_init 0 = .ok (.aload_n 0, 1) := by decide +kernel
theorem dX2_init_1 : decode cX2_init 1 = .ok (.invokespecial 3, 3) := by decide +kernel
theorem dX2_init_4 : decode cX2_init 4 = .ok (.aload_n 0, 1) := by decide +kernel
theorem dX2_init_5 : decode cX2_init 5 = .ok (.bipush 48, 2) := by decide +kernel
theorem dX2_init_7 : decode cX2_init 7 = .ok (.newarray .int, 2) := by decide +kernel
theorem dX2_init_9 : decode cX2_init 9 = .ok (.putfield 9, 3) := by decide +kernel
theorem dX2_init_12 : decode cX2_init 12 = .ok (.aload_n 0, 1) := by decide +kernel
theorem dX2_init_13 : decode cX2_init 13 = .ok (.bipush 48, 2) := by decide +kernel
theorem dX2_init_15 : decode cX2_init 15 = .ok (.newarray .boolean, 2) := by decide +kernel
theorem dX2_init_17 : decode cX2_init 17 = .ok (.putfield 15, 3) := by decide +kernel
theorem dX2_init_20 : decode cX2_init 20 = .ok (.aload_n 0, 1) := by decide +kernel
theorem dX2_init_21 : decode cX2_init 21 = .ok (.bipush 48, 2) := by decide +kernel
theorem dX2_init_23 : decode cX2_init 23 = .ok (.newarray .boolean, 2) := by decide +kernel
theorem dX2_init_25 : decode cX2_init 25 = .ok (.putfield 19, 3) := by decide +kernel
theorem dX2_init_28 : decode cX2_init 28 = .ok (.aload_n 0, 1) := by decide +kernel
theorem dX2_init_29 : decode cX2_init 29 = .ok (.iconst 0, 1) := by decide +kernel
theorem dX2_init_30 : decode cX2_init 30 = .ok (.putfield 22, 3) := by decide +kernel
theorem dX2_init_33 : decode cX2_init 33 = .ok (.return_, 1) := by decide +kernel
theorem dX2_steps_0 : decode cX2_steps 0 = .ok (.aload_n 0, 1) := by decide +kernel
theorem dX2_steps_1 : decode cX2_steps 1 = .ok (.getfield 22, 3) := by decide +kernel
theorem dX2_steps_4 : decode cX2_steps 4 = .ok (.ireturn, 1) := by decide +kernel
theorem dX2_hasStep_0 : decode cX2_hasStep 0 = .ok (.iload_n 1, 1) := by decide +kernel
theorem dX2_hasStep_1 : decode cX2_hasStep 1 = .ok (.ifCond .lt 15, 3) := by decide +kernel
theorem dX2_hasStep_4 : decode cX2_hasStep 4 = .ok (.iload_n 1, 1) := by decide +kernel
theorem dX2_hasStep_5 : decode cX2_hasStep 5 = .ok (.aload_n 0, 1) := by decide +kernel
theorem dX2_hasStep_6 : decode cX2_hasStep 6 = .ok (.getfield 22, 3) := by decide +kernel
theorem dX2_hasStep_9 : decode cX2_hasStep 9 = .ok (.if_icmp .ge 7, 3) := by decide +kernel
theorem dX2_hasStep_12 : decode cX2_hasStep 12 = .ok (.iconst 1, 1) := by decide +kernel
theorem dX2_hasStep_13 : decode cX2_hasStep 13 = .ok (.goto 4, 3) := by decide +kernel
theorem dX2_hasStep_16 : decode cX2_hasStep 16 = .ok (.iconst 0, 1) := by decide +kernel
theorem dX2_hasStep_17 : decode cX2_hasStep 17 = .ok (.ireturn, 1) := by decide +kernel
set_option maxRecDepth 20000 in
theorem ggX2_blockOfStep_X2_hasStep : GoodIn wsX2_blockOfStep wsX2_hasStep := goodIn_r _ [6, 7, 8, 9, 10, 11] (by decide +kernel) (by decide +kernel)
set_option maxRecDepth 20000 in
theorem gX2_blockOfStep_X2_hasStep : GoodIn wsX2_blockOfStep (wsV RX2 26 RX2 yX2_hasStep wsX2_hasStep) := goodIn_app (goodIn_of _ (by decide +kernel)) ggX2_blockOfStep_X2_hasStep
theorem dX2_blockOfStep_0 : decode cX2_blockOfStep 0 = .ok (.aload_n 0, 1) := by decide +kernel
theorem dX2_blockOfStep_1 : decode cX2_blockOfStep 1 = .ok (.iload_n 1, 1) := by decide +kernel
theorem dX2_blockOfStep_2 : decode cX2_blockOfStep 2 = .ok (.invokevirtual 26, 3) := by decide +kernel
theorem dX2_blockOfStep_5 : decode cX2_blockOfStep 5 = .ok (.ifCond .eq 12, 3) := by decide +kernel
theorem dX2_blockOfStep_8 : decode cX2_blockOfStep 8 = .ok (.aload_n 0, 1) := by decide +kernel
theorem dX2_blockOfStep_9 : decode cX2_blockOfStep 9 = .ok (.getfield 9, 3) := by decide +kernel
theorem dX2_blockOfStep_12 : decode cX2_blockOfStep 12 = .ok (.iload_n 1, 1) := by decide +kernel
theorem dX2_blockOfStep_13 : decode cX2_blockOfStep 13 = .ok (.iaload, 1) := by decide +kernel
theorem dX2_blockOfStep_14 : decode cX2_blockOfStep 14 = .ok (.goto 4, 3) := by decide +kernel
theorem dX2_blockOfStep_17 : decode cX2_blockOfStep 17 = .ok (.iconst (-1), 1) := by decide +kernel
theorem dX2_blockOfStep_18 : decode cX2_blockOfStep 18 = .ok (.ireturn, 1) := by decide +kernel
theorem dX2_drops_0 : decode cX2_drops 0 = .ok (.iload_n 1, 1) := by decide +kernel
theorem dX2_drops_1 : decode cX2_drops 1 = .ok (.ifCond .lt 22, 3) := by decide +kernel
theorem dX2_drops_4 : decode cX2_drops 4 = .ok (.iload_n 1, 1) := by decide +kernel
theorem dX2_drops_5 : decode cX2_drops 5 = .ok (.bipush 48, 2) := by decide +kernel
theorem dX2_drops_7 : decode cX2_drops 7 = .ok (.if_icmp .ge 16, 3) := by decide +kernel
theorem dX2_drops_10 : decode cX2_drops 10 = .ok (.aload_n 0, 1) := by decide +kernel
theorem dX2_drops_11 : decode cX2_drops 11 = .ok (.getfield 19, 3) := by decide +kernel
theorem dX2_drops_14 : decode cX2_drops 14 = .ok (.iload_n 1, 1) := by decide +kernel
theorem dX2_drops_15 : decode cX2_drops 15 = .ok (.baload, 1) := by decide +kernel
theorem dX2_drops_16 : decode cX2_drops 16 = .ok (.ifCond .eq 7, 3) := by decide +kernel
theorem dX2_drops_19 : decode cX2_drops 19 = .ok (.iconst 1, 1) := by decide +kernel
theorem dX2_drops_20 : decode cX2_drops 20 = .ok (.goto 4, 3) := by decide +kernel
theorem dX2_drops_23 : decode cX2_drops 23 = .ok (.iconst 0, 1) := by decide +kernel
theorem dX2_drops_24 : decode cX2_drops 24 = .ok (.ireturn, 1) := by decide +kernel
set_option maxRecDepth 20000 in
theorem ggX2_origin_X2_blockOfStep : GoodIn wsX2_origin wsX2_blockOfStep := goodIn_r _ [5, 6, 7, 8, 9, 4, 10, 11, 41, 42, 43, 44] (by decide +kernel) (by decide +kernel)
set_option maxRecDepth 20000 in
theorem gX2_origin_X2_blockOfStep : GoodIn wsX2_origin (wsV RX2 30 RX2 yX2_blockOfStep wsX2_blockOfStep) := goodIn_app (goodIn_of _ (by decide +kernel)) ggX2_origin_X2_blockOfStep
set_option maxRecDepth 20000 in
theorem ggX2_origin_X1_covers : GoodIn wsX2_origin wsX1_covers := goodIn_r _ [16, 17, 18, 19, 15, 20, 21, 22, 23, 24, 25, 26, 27, 28, 29, 30, 31, 45, 46, 47, 48] (by decide +kernel) (by decide +kernel)
set_option maxRecDepth 20000 in
theorem gX2_origin_X1_covers : GoodIn wsX2_origin (wsV RX2 34 RX1 yX1_covers wsX1_covers) := goodIn_app (goodIn_of _ (by decide +kernel)) ggX2_origin_X1_covers
set_option maxRecDepth 20000 in
theorem ggX2_origin_X1_oldIndex : GoodIn wsX2_origin wsX1_oldIndex := goodIn_r _ [35, 17, 18, 19, 15, 20, 21, 22, 23, 24, 25, 26, 36, 37, 38, 39, 40, 45, 46, 47, 48] (by decide +kernel) (by decide +kernel)
set_option maxRecDepth 20000 in
theorem gX2_origin_X1_oldIndex : GoodIn wsX2_origin (wsV RX2 40 RX1 yX1_oldIndex wsX1_oldIndex) := goodIn_app (goodIn_of _ (by decide +kernel)) ggX2_origin_X1_oldIndex
theorem dX2_origin_0 : decode cX2_origin 0 = .ok (.iload_n 3, 1) := by decide +kernel
theorem dX2_origin_1 : decode cX2_origin 1 = .ok (.istore 4, 2) := by decide +kernel
theorem dX2_origin_3 : decode cX2_origin 3 = .ok (.iload_n 2, 1) := by decide +kernel
theorem dX2_origin_4 : decode cX2_origin 4 = .ok (.iconst 1, 1) := by decide +kernel
theorem dX2_origin_5 : decode cX2_origin 5 = .ok (.isub, 1) := by decide +kernel
theorem dX2_origin_6 : decode cX2_origin 6 = .ok (.istore 5, 2) := by decide +kernel
theorem dX2_origin_8 : decode cX2_origin 8 = .ok (.iload 5, 2) := by decide +kernel
theorem dX2_origin_10 : decode cX2_origin 10 = .ok (.ifCond .lt 38, 3) := by decide +kernel
theorem dX2_origin_13 : decode cX2_origin 13 = .ok (.aload_n 0, 1) := by decide +kernel
theorem dX2_origin_14 : decode cX2_origin 14 = .ok (.iload 5, 2) := by decide +kernel
theorem dX2_origin_16 : decode cX2_origin 16 = .ok (.invokevirtual 30, 3) := by decide +kernel
theorem dX2_origin_19 : decode cX2_origin 19 = .ok (.istore 6, 2) := by decide +kernel
theorem dX2_origin_21 : decode cX2_origin 21 = .ok (.aload_n 1, 1) := by decide +kernel
theorem dX2_origin_22 : decode cX2_origin 22 = .ok (.iload 6, 2) := by decide +kernel
theorem dX2_origin_24 : decode cX2_origin 24 = .ok (.iload 4, 2) := by decide +kernel
theorem dX2_origin_26 : decode cX2_origin 26 = .ok (.invokevirtual 34, 3) := by decide +kernel
theorem dX2_origin_29 : decode cX2_origin 29 = .ok (.ifCond .eq 13, 3) := by decide +kernel
theorem dX2_origin_32 : decode cX2_origin 32 = .ok (.aload_n 1, 1) := by decide +kernel
theorem dX2_origin_33 : decode cX2_origin 33 = .ok (.iload 6, 2) := by decide +kernel
theorem dX2_origin_35 : decode cX2_origin 35 = .ok (.iload 4, 2) := by decide +kernel
theorem dX2_origin_37 : decode cX2_origin 37 = .ok (.invokevirtual 40, 3) := by decide +kernel
theorem dX2_origin_40 : decode cX2_origin 40 = .ok (.istore 4, 2) := by decide +kernel
theorem dX2_origin_42 : decode cX2_origin 42 = .ok (.iinc 5 (-1), 3) := by decide +kernel
theorem dX2_origin_45 : decode cX2_origin 45 = .ok (.goto (-37), 3) := by decide +kernel
theorem dX2_origin_48 : decode cX2_origin 48 = .ok (.iload 4, 2) := by decide +kernel
theorem dX2_origin_50 : decode cX2_origin 50 = .ok (.ireturn, 1) := by decide +kernel
set_option maxRecDepth 20000 in
theorem ggX2_arrange_X1_has : GoodIn wsX2_arrange wsX1_has := goodIn_r _ [8, 9, 65, 66, 67, 68] (by decide +kernel) (by decide +kernel)
set_option maxRecDepth 20000 in
theorem gX2_arrange_X1_has : GoodIn wsX2_arrange (wsV RX2 44 RX1 yX1_has wsX1_has) := goodIn_app (goodIn_of _ (by decide +kernel)) ggX2_arrange_X1_has
set_option maxRecDepth 20000 in
theorem ggX2_arrange_X1_size : GoodIn wsX2_arrange wsX1_size := goodIn_r _ [13, 9, 65, 66, 67, 68] (by decide +kernel) (by decide +kernel)
set_option maxRecDepth 20000 in
theorem gX2_arrange_X1_size : GoodIn wsX2_arrange (wsV RX2 47 RX1 yX1_size wsX1_size) := goodIn_app (goodIn_of _ (by decide +kernel)) ggX2_arrange_X1_size
set_option maxRecDepth 20000 in
theorem ggX2_arrange_X2_firstReady : GoodIn wsX2_arrange wsX2_firstReady := goodIn_r _ [18, 10, 11, 12, 7, 13, 9, 19, 20, 21, 17, 22, 2, 23, 24, 25, 26, 27, 28, 29, 30, 31, 32, 33, 34, 35, 36, 5, 6, 8, 37, 38, 39, 40, 41, 42, 43, 44, 45, 46, 65, 66, 67, 68, 61, 62, 63, 64] (by decide +kernel) (by decide +kernel)
set_option maxRecDepth 20000 in
theorem gX2_arrange_X2_firstReady : GoodIn wsX2_arrange (wsV RX2 51 RX2 yX2_firstReady wsX2_firstReady) := goodIn_app (goodIn_of _ (by decide +kernel)) ggX2_arrange_X2_firstReady
set_option maxRecDepth 20000 in
theorem ggX2_arrange_X2_copy : GoodIn wsX2_arrange wsX2_copy := goodIn_r _ [50, 1, 2, 51, 19, 20, 21, 17, 22, 61, 62, 63, 64] (by decide +kernel) (by decide +kernel)
set_option maxRecDepth 20000 in
theorem gX2_arrange_X2_copy : GoodIn wsX2_arrange (wsV RX2 55 RX2 yX2_copy wsX2_copy) := goodIn_app (goodIn_of _ (by decide +kernel)) ggX2_arrange_X2_copy
set_option maxRecDepth 20000 in
theorem ggX2_arrange_X2_shortestWaiting : GoodIn wsX2_arrange wsX2_shortestWaiting := goodIn_r _ [55, 10, 11, 12, 7, 13, 9, 19, 20, 21, 17, 22, 2, 56, 43, 44, 45, 46, 36, 5, 6, 8, 65, 66, 67, 68, 61, 62, 63, 64] (by decide +kernel) (by decide +kernel)
set_option maxRecDepth 20000 in
theorem gX2_arrange_X2_shortestWaiting : GoodIn wsX2_arrange (wsV RX2 59 RX2 yX2_shortestWaiting wsX2_shortestWaiting) := goodIn_app (goodIn_of _ (by decide +kernel)) ggX2_arrange_X2_shortestWaiting
set_option maxRecDepth 20000 in
theorem ggX2_arrange_X2_drop : GoodIn wsX2_arrange wsX2_drop := goodIn_r _ [60, 2, 3, 19, 20, 21, 17, 22, 61, 62, 63, 64] (by decide +kernel) (by decide +kernel)
set_option maxRecDepth 20000 in
theorem gX2_arrange_X2_drop : GoodIn wsX2_arrange (wsV RX2 62 RX2 yX2_drop wsX2_drop) := goodIn_app (goodIn_of _ (by decide +kernel)) ggX2_arrange_X2_drop
theorem dX2_arrange_0 : decode cX2_arrange 0 = .ok (.aload_n 0, 1) := by decide +kernel
theorem dX2_arrange_1 : decode cX2_arrange 1 = .ok (.iconst 0, 1) := by decide +kernel
theorem dX2_arrange_2 : decode cX2_arrange 2 = .ok (.putfield 22, 3) := by decide +kernel
theorem dX2_arrange_5 : decode cX2_arrange 5 = .ok (.iconst 0, 1) := by decide +kernel
theorem dX2_arrange_6 : decode cX2_arrange 6 = .ok (.istore_n 2, 1) := by decide +kernel
theorem dX2_arrange_7 : decode cX2_arrange 7 = .ok (.iload_n 2, 1) := by decide +kernel
theorem dX2_arrange_8 : decode cX2_arrange 8 = .ok (.bipush 48, 2) := by decide +kernel
theorem dX2_arrange_10 : decode cX2_arrange 10 = .ok (.if_icmp .ge 27, 3) := by decide +kernel
theorem dX2_arrange_13 : decode cX2_arrange 13 = .ok (.aload_n 0, 1) := by decide +kernel
theorem dX2_arrange_14 : decode cX2_arrange 14 = .ok (.getfield 15, 3) := by decide +kernel
theorem dX2_arrange_17 : decode cX2_arrange 17 = .ok (.iload_n 2, 1) := by decide +kernel
theorem dX2_arrange_18 : decode cX2_arrange 18 = .ok (.aload_n 1, 1) := by decide +kernel
theorem dX2_arrange_19 : decode cX2_arrange 19 = .ok (.iload_n 2, 1) := by decide +kernel
theorem dX2_arrange_20 : decode cX2_arrange 20 = .ok (.invokevirtual 44, 3) := by decide +kernel
theorem dX2_arrange_23 : decode cX2_arrange 23 = .ok (.bastore, 1) := by decide +kernel
theorem dX2_arrange_24 : decode cX2_arrange 24 = .ok (.aload_n 0, 1) := by decide +kernel
theorem dX2_arrange_25 : decode cX2_arrange 25 = .ok (.getfield 19, 3) := by decide +kernel
theorem dX2_arrange_28 : decode cX2_arrange 28 = .ok (.iload_n 2, 1) := by decide +kernel
theorem dX2_arrange_29 : decode cX2_arrange 29 = .ok (.iconst 0, 1) := by decide +kernel
theorem dX2_arrange_30 : decode cX2_arrange 30 = .ok (.bastore, 1) := by decide +kernel
theorem dX2_arrange_31 : decode cX2_arrange 31 = .ok (.iinc 2 1, 3) := by decide +kernel
theorem dX2_arrange_34 : decode cX2_arrange 34 = .ok (.goto (-27), 3) := by decide +kernel
theorem dX2_arrange_37 : decode cX2_arrange 37 = .ok (.iconst 0, 1) := by decide +kernel
theorem dX2_arrange_38 : decode cX2_arrange 38 = .ok (.istore_n 2, 1) := by decide +kernel
theorem dX2_arrange_39 : decode cX2_arrange 39 = .ok (.iload_n 2, 1) := by decide +kernel
theorem dX2_arrange_40 : decode cX2_arrange 40 = .ok (.aload_n 1, 1) := by decide +kernel
theorem dX2_arrange_41 : decode cX2_arrange 41 = .ok (.invokevirtual 47, 3) := by decide +kernel
theorem dX2_arrange_44 : decode cX2_arrange 44 = .ok (.if_icmp .ge 37, 3) := by decide +kernel
theorem dX2_arrange_47 : decode cX2_arrange 47 = .ok (.aload_n 0, 1) := by decide +kernel
theorem dX2_arrange_48 : decode cX2_arrange 48 = .ok (.aload_n 1, 1) := by decide +kernel
theorem dX2_arrange_49 : decode cX2_arrange 49 = .ok (.invokevirtual 51, 3) := by decide +kernel
theorem dX2_arrange_52 : decode cX2_arrange 52 = .ok (.istore_n 3, 1) := by decide +kernel
theorem dX2_arrange_53 : decode cX2_arrange 53 = .ok (.iload_n 3, 1) := by decide +kernel
theorem dX2_arrange_54 : decode cX2_arrange 54 = .ok (.iconst (-1), 1) := by decide +kernel
theorem dX2_arrange_55 : decode cX2_arrange 55 = .ok (.if_icmp .eq 11, 3) := by decide +kernel
theorem dX2_arrange_58 : decode cX2_arrange 58 = .ok (.aload_n 0, 1) := by decide +kernel
theorem dX2_arrange_59 : decode cX2_arrange 59 = .ok (.iload_n 3, 1) := by decide +kernel
theorem dX2_arrange_60 : decode cX2_arrange 60 = .ok (.invokevirtual 55, 3) := by decide +kernel
theorem dX2_arrange_63 : decode cX2_arrange 63 = .ok (.goto 12, 3) := by decide +kernel
theorem dX2_arrange_66 : decode cX2_arrange 66 = .ok (.aload_n 0, 1) := by decide +kernel
theorem dX2_arrange_67 : decode cX2_arrange 67 = .ok (.aload_n 0, 1) := by decide +kernel
theorem dX2_arrange_68 : decode cX2_arrange 68 = .ok (.aload_n 1, 1) := by decide +kernel
theorem dX2_arrange_69 : decode cX2_arrange 69 = .ok (.invokevirtual 59, 3) := by decide +kernel
theorem dX2_arrange_72 : decode cX2_arrange 72 = .ok (.invokevirtual 62, 3) := by decide +kernel
theorem dX2_arrange_75 : decode cX2_arrange 75 = .ok (.iinc 2 1, 3) := by decide +kernel
theorem dX2_arrange_78 : decode cX2_arrange 78 = .ok (.goto (-39), 3) := by decide +kernel
theorem dX2_arrange_81 : decode cX2_arrange 81 = .ok (.return_, 1) := by decide +kernel
theorem dX2_waits_0 : decode cX2_waits 0 = .ok (.iload_n 1, 1) := by decide +kernel
theorem dX2_waits_1 : decode cX2_waits 1 = .ok (.ifCond .lt 22, 3) := by decide +kernel
theorem dX2_waits_4 : decode cX2_waits 4 = .ok (.iload_n 1, 1) := by decide +kernel
theorem dX2_waits_5 : decode cX2_waits 5 = .ok (.bipush 48, 2) := by decide +kernel
theorem dX2_waits_7 : decode cX2_waits 7 = .ok (.if_icmp .ge 16, 3) := by decide +kernel
theorem dX2_waits_10 : decode cX2_waits 10 = .ok (.aload_n 0, 1) := by decide +kernel
theorem dX2_waits_11 : decode cX2_waits 11 = .ok (.getfield 15, 3) := by decide +kernel
theorem dX2_waits_14 : decode cX2_waits 14 = .ok (.iload_n 1, 1) := by decide +kernel
theorem dX2_waits_15 : decode cX2_waits 15 = .ok (.baload, 1) := by decide +kernel
theorem dX2_waits_16 : decode cX2_waits 16 = .ok (.ifCond .eq 7, 3) := by decide +kernel
theorem dX2_waits_19 : decode cX2_waits 19 = .ok (.iconst 1, 1) := by decide +kernel
theorem dX2_waits_20 : decode cX2_waits 20 = .ok (.goto 4, 3) := by decide +kernel
theorem dX2_waits_23 : decode cX2_waits 23 = .ok (.iconst 0, 1) := by decide +kernel
theorem dX2_waits_24 : decode cX2_waits 24 = .ok (.ireturn, 1) := by decide +kernel
set_option maxRecDepth 20000 in
theorem ggX2_firstReady_X1_size : GoodIn wsX2_firstReady wsX1_size := goodIn_r _ [5, 6, 40, 41, 42, 43] (by decide +kernel) (by decide +kernel)
set_option maxRecDepth 20000 in
theorem gX2_firstReady_X1_size : GoodIn wsX2_firstReady (wsV RX2 47 RX1 yX1_size wsX1_size) := goodIn_app (goodIn_of _ (by decide +kernel)) ggX2_firstReady_X1_size
set_option maxRecDepth 20000 in
theorem ggX2_firstReady_X2_waits : GoodIn wsX2_firstReady wsX2_waits := goodIn_r _ [11, 12, 44, 45, 46, 47] (by decide +kernel) (by decide +kernel)
set_option maxRecDepth 20000 in
theorem gX2_firstReady_X2_waits : GoodIn wsX2_firstReady (wsV RX2 65 RX2 yX2_waits wsX2_waits) := goodIn_app (goodIn_of _ (by decide +kernel)) ggX2_firstReady_X2_waits
set_option maxRecDepth 20000 in
theorem ggX2_firstReady_X2_isReady : GoodIn wsX2_firstReady wsX2_isReady := goodIn_r _ [16, 1, 2, 3, 4, 5, 6, 7, 8, 9, 10, 11, 12, 17, 18, 19, 20, 21, 22, 23, 24, 25, 26, 27, 28, 29, 30, 31, 32, 33, 34, 35, 36, 37, 38, 39, 40, 41, 42, 43, 44, 45, 46, 47] (by decide +kernel) (by decide +kernel)
set_option maxRecDepth 20000 in
theorem gX2_firstReady_X2_isReady : GoodIn wsX2_firstReady (wsV RX2 68 RX2 yX2_isReady wsX2_isReady) := goodIn_app (goodIn_of _ (by decide +kernel)) ggX2_firstReady_X2_isReady
theorem dX2_firstReady_0 : decode cX2_firstReady 0 = .ok (.iconst 0, 1) := by decide +kernel
theorem dX2_firstReady_1 : decode cX2_firstReady 1 = .ok (.istore_n 2, 1) := by decide +kernel
theorem dX2_firstReady_2 : decode cX2_firstReady 2 = .ok (.iload_n 2, 1) := by decide +kernel
theorem dX2_firstReady_3 : decode cX2_firstReady 3 = .ok (.aload_n 1, 1) := by decide +kernel
theorem dX2_firstReady_4 : decode cX2_firstReady 4 = .ok (.invokevirtual 47, 3) := by decide +kernel
theorem dX2_firstReady_7 : decode cX2_firstReady 7 = .ok (.if_icmp .ge 28, 3) := by decide +kernel
theorem dX2_firstReady_10 : decode cX2_firstReady 10 = .ok (.aload_n 0, 1) := by decide +kernel
theorem dX2_firstReady_11 : decode cX2_firstReady 11 = .ok (.iload_n 2, 1) := by decide +kernel
theorem dX2_firstReady_12 : decode cX2_firstReady 12 = .ok (.invokevirtual 65, 3) := by decide +kernel
theorem dX2_firstReady_15 : decode cX2_firstReady 15 = .ok (.ifCond .eq 14, 3) := by decide +kernel
theorem dX2_firstReady_18 : decode cX2_firstReady 18 = .ok (.aload_n 0, 1) := by decide +kernel
theorem dX2_firstReady_19 : decode cX2_firstReady 19 = .ok (.aload_n 1, 1) := by decide +kernel
theorem dX2_firstReady_20 : decode cX2_firstReady 20 = .ok (.iload_n 2, 1) := by decide +kernel
theorem dX2_firstReady_21 : decode cX2_firstReady 21 = .ok (.invokevirtual 68, 3) := by decide +kernel
theorem dX2_firstReady_24 : decode cX2_firstReady 24 = .ok (.ifCond .eq 5, 3) := by decide +kernel
theorem dX2_firstReady_27 : decode cX2_firstReady 27 = .ok (.iload_n 2, 1) := by decide +kernel
theorem dX2_firstReady_28 : decode cX2_firstReady 28 = .ok (.ireturn, 1) := by decide +kernel
theorem dX2_firstReady_29 : decode cX2_firstReady 29 = .ok (.iinc 2 1, 3) := by decide +kernel
theorem dX2_firstReady_32 : decode cX2_firstReady 32 = .ok (.goto (-30), 3) := by decide +kernel
theorem dX2_firstReady_35 : decode cX2_firstReady 35 = .ok (.iconst (-1), 1) := by decide +kernel
theorem dX2_firstReady_36 : decode cX2_firstReady 36 = .ok (.ireturn, 1) := by decide +kernel
set_option maxRecDepth 20000 in
theorem ggX2_isReady_X1_size : GoodIn wsX2_isReady wsX1_size := goodIn_r _ [5, 6, 36, 37, 38, 39] (by decide +kernel) (by decide +kernel)
set_option maxRecDepth 20000 in
theorem gX2_isReady_X1_size : GoodIn wsX2_isReady (wsV RX2 47 RX1 yX1_size wsX1_size) := goodIn_app (goodIn_of _ (by decide +kernel)) ggX2_isReady_X1_size
set_option maxRecDepth 20000 in
theorem ggX2_isReady_X2_waits : GoodIn wsX2_isReady wsX2_waits := goodIn_r _ [11, 12, 40, 41, 42, 43] (by decide +kernel) (by decide +kernel)
set_option maxRecDepth 20000 in
theorem gX2_isReady_X2_waits : GoodIn wsX2_isReady (wsV RX2 65 RX2 yX2_waits wsX2_waits) := goodIn_app (goodIn_of _ (by decide +kernel)) ggX2_isReady_X2_waits
set_option maxRecDepth 20000 in
theorem ggX2_isReady_X1_mustGoBefore : GoodIn wsX2_isReady wsX1_mustGoBefore := goodIn_r _ [16, 17, 18, 19, 4, 20, 21, 22, 23, 24, 25, 6, 26, 27, 28, 29, 30, 31, 32, 33, 34, 35, 36, 37, 38, 39] (by decide +kernel) (by decide +kernel)
set_option maxRecDepth 20000 in
theorem gX2_isReady_X1_mustGoBefore : GoodIn wsX2_isReady (wsV RX2 72 RX1 yX1_mustGoBefore wsX1_mustGoBefore) := goodIn_app (goodIn_of _ (by decide +kernel)) ggX2_isReady_X1_mustGoBefore
end
section
theorem dX2_isReady_0 : decode cX2_isReady 0 = .ok (.iconst 0, 1) := by decide +kernel
theorem dX2_isReady_1 : decode cX2_isReady 1 = .ok (.istore_n 3, 1) := by decide +kernel
theorem dX2_isReady_2 : decode cX2_isReady 2 = .ok (.iload_n 3, 1) := by decide +kernel
theorem dX2_isReady_3 : decode cX2_isReady 3 = .ok (.aload_n 1, 1) := by decide +kernel
theorem dX2_isReady_4 : decode cX2_isReady 4 = .ok (.invokevirtual 47, 3) := by decide +kernel
theorem dX2_isReady_7 : decode cX2_isReady 7 = .ok (.if_icmp .ge 28, 3) := by decide +kernel
theorem dX2_isReady_10 : decode cX2_isReady 10 = .ok (.aload_n 0, 1) := by decide +kernel
theorem dX2_isReady_11 : decode cX2_isReady 11 = .ok (.iload_n 3, 1) := by decide +kernel
theorem dX2_isReady_12 : decode cX2_isReady 12 = .ok (.invokevirtual 65, 3) := by decide +kernel
theorem dX2_isReady_15 : decode cX2_isReady 15 = .ok (.ifCond .eq 14, 3) := by decide +kernel
theorem dX2_isReady_18 : decode cX2_isReady 18 = .ok (.aload_n 1, 1) := by decide +kernel
theorem dX2_isReady_19 : decode cX2_isReady 19 = .ok (.iload_n 3, 1) := by decide +kernel
theorem dX2_isReady_20 : decode cX2_isReady 20 = .ok (.iload_n 2, 1) := by decide +kernel
theorem dX2_isReady_21 : decode cX2_isReady 21 = .ok (.invokevirtual 72, 3) := by decide +kernel
theorem dX2_isReady_24 : decode cX2_isReady 24 = .ok (.ifCond .eq 5, 3) := by decide +kernel
theorem dX2_isReady_27 : decode cX2_isReady 27 = .ok (.iconst 0, 1) := by decide +kernel
theorem dX2_isReady_28 : decode cX2_isReady 28 = .ok (.ireturn, 1) := by decide +kernel
theorem dX2_isReady_29 : decode cX2_isReady 29 = .ok (.iinc 3 1, 3) := by decide +kernel
theorem dX2_isReady_32 : decode cX2_isReady 32 = .ok (.goto (-30), 3) := by decide +kernel
theorem dX2_isReady_35 : decode cX2_isReady 35 = .ok (.iconst 1, 1) := by decide +kernel
theorem dX2_isReady_36 : decode cX2_isReady 36 = .ok (.ireturn, 1) := by decide +kernel
set_option maxRecDepth 20000 in
theorem ggX2_shortestWaiting_X1_size : GoodIn wsX2_shortestWaiting wsX1_size := goodIn_r _ [5, 6, 22, 23, 24, 25] (by decide +kernel) (by decide +kernel)
set_option maxRecDepth 20000 in
theorem gX2_shortestWaiting_X1_size : GoodIn wsX2_shortestWaiting (wsV RX2 47 RX1 yX1_size wsX1_size) := goodIn_app (goodIn_of _ (by decide +kernel)) ggX2_shortestWaiting_X1_size
set_option maxRecDepth 20000 in
theorem ggX2_shortestWaiting_X2_waits : GoodIn wsX2_shortestWaiting wsX2_waits := goodIn_r _ [11, 12, 26, 27, 28, 29] (by decide +kernel) (by decide +kernel)
set_option maxRecDepth 20000 in
theorem gX2_shortestWaiting_X2_waits : GoodIn wsX2_shortestWaiting (wsV RX2 65 RX2 yX2_waits wsX2_waits) := goodIn_app (goodIn_of _ (by decide +kernel)) ggX2_shortestWaiting_X2_waits
set_option maxRecDepth 20000 in
theorem ggX2_shortestWaiting_X1_length : GoodIn wsX2_shortestWaiting wsX1_length := goodIn_r _ [16, 17, 18, 19, 20, 4, 21, 6, 22, 23, 24, 25] (by decide +kernel) (by decide +kernel)
set_option maxRecDepth 20000 in
theorem gX2_shortestWaiting_X1_length : GoodIn wsX2_shortestWaiting (wsV RX2 75 RX1 yX1_length wsX1_length) := goodIn_app (goodIn_of _ (by decide +kernel)) ggX2_shortestWaiting_X1_length
theorem dX2_shortestWaiting_0 : decode cX2_shortestWaiting 0 = .ok (.iconst (-1), 1) := by decide +kernel
theorem dX2_shortestWaiting_1 : decode cX2_shortestWaiting 1 = .ok (.istore_n 2, 1) := by decide +kernel
theorem dX2_shortestWaiting_2 : decode cX2_shortestWaiting 2 = .ok (.iconst 0, 1) := by decide +kernel
theorem dX2_shortestWaiting_3 : decode cX2_shortestWaiting 3 = .ok (.istore_n 3, 1) := by decide +kernel
theorem dX2_shortestWaiting_4 : decode cX2_shortestWaiting 4 = .ok (.iload_n 3, 1) := by decide +kernel
theorem dX2_shortestWaiting_5 : decode cX2_shortestWaiting 5 = .ok (.aload_n 1, 1) := by decide +kernel
theorem dX2_shortestWaiting_6 : decode cX2_shortestWaiting 6 = .ok (.invokevirtual 47, 3) := by decide +kernel
theorem dX2_shortestWaiting_9 : decode cX2_shortestWaiting 9 = .ok (.if_icmp .ge 37, 3) := by decide +kernel
theorem dX2_shortestWaiting_12 : decode cX2_shortestWaiting 12 = .ok (.aload_n 0, 1) := by decide +kernel
theorem dX2_shortestWaiting_13 : decode cX2_shortestWaiting 13 = .ok (.iload_n 3, 1) := by decide +kernel
theorem dX2_shortestWaiting_14 : decode cX2_shortestWaiting 14 = .ok (.invokevirtual 65, 3) := by decide +kernel
theorem dX2_shortestWaiting_17 : decode cX2_shortestWaiting 17 = .ok (.ifCond .eq 23, 3) := by decide +kernel
theorem dX2_shortestWaiting_20 : decode cX2_shortestWaiting 20 = .ok (.iload_n 2, 1) := by decide +kernel
theorem dX2_shortestWaiting_21 : decode cX2_shortestWaiting 21 = .ok (.iconst (-1), 1) := by decide +kernel
theorem dX2_shortestWaiting_22 : decode cX2_shortestWaiting 22 = .ok (.if_icmp .eq 16, 3) := by decide +kernel
theorem dX2_shortestWaiting_25 : decode cX2_shortestWaiting 25 = .ok (.aload_n 1, 1) := by decide +kernel
theorem dX2_shortestWaiting_26 : decode cX2_shortestWaiting 26 = .ok (.iload_n 3, 1) := by decide +kernel
theorem dX2_shortestWaiting_27 : decode cX2_shortestWaiting 27 = .ok (.invokevirtual 75, 3) := by decide +kernel
theorem dX2_shortestWaiting_30 : decode cX2_shortestWaiting 30 = .ok (.aload_n 1, 1) := by decide +kernel
theorem dX2_shortestWaiting_31 : decode cX2_shortestWaiting 31 = .ok (.iload_n 2, 1) := by decide +kernel
theorem dX2_shortestWaiting_32 : decode cX2_shortestWaiting 32 = .ok (.invokevirtual 75, 3) := by decide +kernel
theorem dX2_shortestWaiting_35 : decode cX2_shortestWaiting 35 = .ok (.if_icmp .ge 5, 3) := by decide +kernel
theorem dX2_shortestWaiting_38 : decode cX2_shortestWaiting 38 = .ok (.iload_n 3, 1) := by decide +kernel
theorem dX2_shortestWaiting_39 : decode cX2_shortestWaiting 39 = .ok (.istore_n 2, 1) := by decide +kernel
theorem dX2_shortestWaiting_40 : decode cX2_shortestWaiting 40 = .ok (.iinc 3 1, 3) := by decide +kernel
theorem dX2_shortestWaiting_43 : decode cX2_shortestWaiting 43 = .ok (.goto (-39), 3) := by decide +kernel
theorem dX2_shortestWaiting_46 : decode cX2_shortestWaiting 46 = .ok (.iload_n 2, 1) := by decide +kernel
theorem dX2_shortestWaiting_47 : decode cX2_shortestWaiting 47 = .ok (.ireturn, 1) := by decide +kernel
set_option maxRecDepth 20000 in
theorem ggX2_copy_X2_waits : GoodIn wsX2_copy wsX2_waits := goodIn_r _ [8, 2, 9, 10, 11, 12] (by decide +kernel) (by decide +kernel)
set_option maxRecDepth 20000 in
theorem gX2_copy_X2_waits : GoodIn wsX2_copy (wsV RX2 65 RX2 yX2_waits wsX2_waits) := goodIn_app (goodIn_of _ (by decide +kernel)) ggX2_copy_X2_waits
theorem dX2_copy_0 : decode cX2_copy 0 = .ok (.aload_n 0, 1) := by decide +kernel
theorem dX2_copy_1 : decode cX2_copy 1 = .ok (.iload_n 1, 1) := by decide +kernel
theorem dX2_copy_2 : decode cX2_copy 2 = .ok (.invokevirtual 65, 3) := by decide +kernel
theorem dX2_copy_5 : decode cX2_copy 5 = .ok (.ifCond .eq 39, 3) := by decide +kernel
theorem dX2_copy_8 : decode cX2_copy 8 = .ok (.aload_n 0, 1) := by decide +kernel
theorem dX2_copy_9 : decode cX2_copy 9 = .ok (.getfield 22, 3) := by decide +kernel
theorem dX2_copy_12 : decode cX2_copy 12 = .ok (.bipush 48, 2) := by decide +kernel
theorem dX2_copy_14 : decode cX2_copy 14 = .ok (.if_icmp .ge 30, 3) := by decide +kernel
theorem dX2_copy_17 : decode cX2_copy 17 = .ok (.aload_n 0, 1) := by decide +kernel
theorem dX2_copy_18 : decode cX2_copy 18 = .ok (.getfield 15, 3) := by decide +kernel
theorem dX2_copy_21 : decode cX2_copy 21 = .ok (.iload_n 1, 1) := by decide +kernel
theorem dX2_copy_22 : decode cX2_copy 22 = .ok (.iconst 0, 1) := by decide +kernel
theorem dX2_copy_23 : decode cX2_copy 23 = .ok (.bastore, 1) := by decide +kernel
theorem dX2_copy_24 : decode cX2_copy 24 = .ok (.aload_n 0, 1) := by decide +kernel
theorem dX2_copy_25 : decode cX2_copy 25 = .ok (.getfield 9, 3) := by decide +kernel
theorem dX2_copy_28 : decode cX2_copy 28 = .ok (.aload_n 0, 1) := by decide +kernel
theorem dX2_copy_29 : decode cX2_copy 29 = .ok (.getfield 22, 3) := by decide +kernel
theorem dX2_copy_32 : decode cX2_copy 32 = .ok (.iload_n 1, 1) := by decide +kernel
theorem dX2_copy_33 : decode cX2_copy 33 = .ok (.iastore, 1) := by decide +kernel
theorem dX2_copy_34 : decode cX2_copy 34 = .ok (.aload_n 0, 1) := by decide +kernel
theorem dX2_copy_35 : decode cX2_copy 35 = .ok (.dup, 1) := by decide +kernel
theorem dX2_copy_36 : decode cX2_copy 36 = .ok (.getfield 22, 3) := by decide +kernel
theorem dX2_copy_39 : decode cX2_copy 39 = .ok (.iconst 1, 1) := by decide +kernel
theorem dX2_copy_40 : decode cX2_copy 40 = .ok (.iadd, 1) := by decide +kernel
theorem dX2_copy_41 : decode cX2_copy 41 = .ok (.putfield 22, 3) := by decide +kernel
theorem dX2_copy_44 : decode cX2_copy 44 = .ok (.return_, 1) := by decide +kernel
set_option maxRecDepth 20000 in
theorem ggX2_drop_X2_waits : GoodIn wsX2_drop wsX2_waits := goodIn_r _ [7, 1, 8, 9, 10, 11] (by decide +kernel) (by decide +kernel)
set_option maxRecDepth 20000 in
theorem gX2_drop_X2_waits : GoodIn wsX2_drop (wsV RX2 65 RX2 yX2_waits wsX2_waits) := goodIn_app (goodIn_of _ (by decide +kernel)) ggX2_drop_X2_waits
theorem dX2_drop_0 : decode cX2_drop 0 = .ok (.aload_n 0, 1) := by decide +kernel
theorem dX2_drop_1 : decode cX2_drop 1 = .ok (.iload_n 1, 1) := by decide +kernel
theorem dX2_drop_2 : decode cX2_drop 2 = .ok (.invokevirtual 65, 3) := by decide +kernel
theorem dX2_drop_5 : decode cX2_drop 5 = .ok (.ifCond .eq 17, 3) := by decide +kernel
theorem dX2_drop_8 : decode cX2_drop 8 = .ok (.aload_n 0, 1) := by decide +kernel
theorem dX2_drop_9 : decode cX2_drop 9 = .ok (.getfield 15, 3) := by decide +kernel
theorem dX2_drop_12 : decode cX2_drop 12 = .ok (.iload_n 1, 1) := by decide +kernel
theorem dX2_drop_13 : decode cX2_drop 13 = .ok (.iconst 0, 1) := by decide +kernel
theorem dX2_drop_14 : decode cX2_drop 14 = .ok (.bastore, 1) := by decide +kernel
theorem dX2_drop_15 : decode cX2_drop 15 = .ok (.aload_n 0, 1) := by decide +kernel
theorem dX2_drop_16 : decode cX2_drop 16 = .ok (.getfield 19, 3) := by decide +kernel
theorem dX2_drop_19 : decode cX2_drop 19 = .ok (.iload_n 1, 1) := by decide +kernel
theorem dX2_drop_20 : decode cX2_drop 20 = .ok (.iconst 1, 1) := by decide +kernel
theorem dX2_drop_21 : decode cX2_drop 21 = .ok (.bastore, 1) := by decide +kernel
theorem dX2_drop_22 : decode cX2_drop 22 = .ok (.return_, 1) := by decide +kernel
theorem dX3_init_0 : decode cX3_init 0 = .ok (.aload_n 0, 1) := by decide +kernel
theorem dX3_init_1 : decode cX3_init 1 = .ok (.invokespecial 3, 3) := by decide +kernel
theorem dX3_init_4 : decode cX3_init 4 = .ok (.aload_n 0, 1) := by decide +kernel
theorem dX3_init_5 : decode cX3_init 5 = .ok (.bipush 48, 2) := by decide +kernel
theorem dX3_init_7 : decode cX3_init 7 = .ok (.newarray .int, 2) := by decide +kernel
theorem dX3_init_9 : decode cX3_init 9 = .ok (.putfield 9, 3) := by decide +kernel
theorem dX3_init_12 : decode cX3_init 12 = .ok (.aload_n 0, 1) := by decide +kernel
theorem dX3_init_13 : decode cX3_init 13 = .ok (.bipush 48, 2) := by decide +kernel
theorem dX3_init_15 : decode cX3_init 15 = .ok (.newarray .boolean, 2) := by decide +kernel
theorem dX3_init_17 : decode cX3_init 17 = .ok (.putfield 15, 3) := by decide +kernel
theorem dX3_init_20 : decode cX3_init 20 = .ok (.aload_n 0, 1) := by decide +kernel
theorem dX3_init_21 : decode cX3_init 21 = .ok (.iconst 0, 1) := by decide +kernel
theorem dX3_init_22 : decode cX3_init 22 = .ok (.putfield 19, 3) := by decide +kernel
theorem dX3_init_25 : decode cX3_init 25 = .ok (.return_, 1) := by decide +kernel
theorem dX3_size_0 : decode cX3_size 0 = .ok (.aload_n 0, 1) := by decide +kernel
theorem dX3_size_1 : decode cX3_size 1 = .ok (.getfield 19, 3) := by decide +kernel
theorem dX3_size_4 : decode cX3_size 4 = .ok (.ireturn, 1) := by decide +kernel
theorem dX3_isFull_0 : decode cX3_isFull 0 = .ok (.aload_n 0, 1) := by decide +kernel
theorem dX3_isFull_1 : decode cX3_isFull 1 = .ok (.getfield 19, 3) := by decide +kernel
theorem dX3_isFull_4 : decode cX3_isFull 4 = .ok (.bipush 48, 2) := by decide +kernel
theorem dX3_isFull_6 : decode cX3_isFull 6 = .ok (.if_icmp .lt 7, 3) := by decide +kernel
theorem dX3_isFull_9 : decode cX3_isFull 9 = .ok (.iconst 1, 1) := by decide +kernel
theorem dX3_isFull_10 : decode cX3_isFull 10 = .ok (.goto 4, 3) := by decide +kernel
theorem dX3_isFull_13 : decode cX3_isFull 13 = .ok (.iconst 0, 1) := by decide +kernel
theorem dX3_isFull_14 : decode cX3_isFull 14 = .ok (.ireturn, 1) := by decide +kernel
theorem dX3_holds_0 : decode cX3_holds 0 = .ok (.iload_n 1, 1) := by decide +kernel
theorem dX3_holds_1 : decode cX3_holds 1 = .ok (.ifCond .lt 15, 3) := by decide +kernel
theorem dX3_holds_4 : decode cX3_holds 4 = .ok (.iload_n 1, 1) := by decide +kernel
theorem dX3_holds_5 : decode cX3_holds 5 = .ok (.aload_n 0, 1) := by decide +kernel
theorem dX3_holds_6 : decode cX3_holds 6 = .ok (.getfield 19, 3) := by decide +kernel
theorem dX3_holds_9 : decode cX3_holds 9 = .ok (.if_icmp .ge 7, 3) := by decide +kernel
theorem dX3_holds_12 : decode cX3_holds 12 = .ok (.iconst 1, 1) := by decide +kernel
theorem dX3_holds_13 : decode cX3_holds 13 = .ok (.goto 4, 3) := by decide +kernel
theorem dX3_holds_16 : decode cX3_holds 16 = .ok (.iconst 0, 1) := by decide +kernel
theorem dX3_holds_17 : decode cX3_holds 17 = .ok (.ireturn, 1) := by decide +kernel
set_option maxRecDepth 20000 in
theorem ggX3_valueAt_X3_holds : GoodIn wsX3_valueAt wsX3_holds := goodIn_r _ [6, 7, 8, 9, 10] (by decide +kernel) (by decide +kernel)
set_option maxRecDepth 20000 in
theorem gX3_valueAt_X3_holds : GoodIn wsX3_valueAt (wsV RX3 23 RX3 yX3_holds wsX3_holds) := goodIn_app (goodIn_of _ (by decide +kernel)) ggX3_valueAt_X3_holds
theorem dX3_valueAt_0 : decode cX3_valueAt 0 = .ok (.aload_n 0, 1) := by decide +kernel
theorem dX3_valueAt_1 : decode cX3_valueAt 1 = .ok (.iload_n 1, 1) := by decide +kernel
theorem dX3_valueAt_2 : decode cX3_valueAt 2 = .ok (.invokevirtual 23, 3) := by decide +kernel
theorem dX3_valueAt_5 : decode cX3_valueAt 5 = .ok (.ifCond .eq 12, 3) := by decide +kernel
theorem dX3_valueAt_8 : decode cX3_valueAt 8 = .ok (.aload_n 0, 1) := by decide +kernel
theorem dX3_valueAt_9 : decode cX3_valueAt 9 = .ok (.getfield 9, 3) := by decide +kernel
theorem dX3_valueAt_12 : decode cX3_valueAt 12 = .ok (.iload_n 1, 1) := by decide +kernel
theorem dX3_valueAt_13 : decode cX3_valueAt 13 = .ok (.iaload, 1) := by decide +kernel
theorem dX3_valueAt_14 : decode cX3_valueAt 14 = .ok (.goto 4, 3) := by decide +kernel
theorem dX3_valueAt_17 : decode cX3_valueAt 17 = .ok (.iconst 0, 1) := by decide +kernel
theorem dX3_valueAt_18 : decode cX3_valueAt 18 = .ok (.ireturn, 1) := by decide +kernel
set_option maxRecDepth 20000 in
theorem ggX3_isAddress_X3_holds : GoodIn wsX3_isAddress wsX3_holds := goodIn_r _ [6, 7, 8, 9, 10] (by decide +kernel) (by decide +kernel)
set_option maxRecDepth 20000 in
theorem gX3_isAddress_X3_holds : GoodIn wsX3_isAddress (wsV RX3 23 RX3 yX3_holds wsX3_holds) := goodIn_app (goodIn_of _ (by decide +kernel)) ggX3_isAddress_X3_holds
theorem dX3_isAddress_0 : decode cX3_isAddress 0 = .ok (.aload_n 0, 1) := by decide +kernel
theorem dX3_isAddress_1 : decode cX3_isAddress 1 = .ok (.iload_n 1, 1) := by decide +kernel
theorem dX3_isAddress_2 : decode cX3_isAddress 2 = .ok (.invokevirtual 23, 3) := by decide +kernel
theorem dX3_isAddress_5 : decode cX3_isAddress 5 = .ok (.ifCond .eq 16, 3) := by decide +kernel
theorem dX3_isAddress_8 : decode cX3_isAddress 8 = .ok (.aload_n 0, 1) := by decide +kernel
theorem dX3_isAddress_9 : decode cX3_isAddress 9 = .ok (.getfield 15, 3) := by decide +kernel
theorem dX3_isAddress_12 : decode cX3_isAddress 12 = .ok (.iload_n 1, 1) := by decide +kernel
theorem dX3_isAddress_13 : decode cX3_isAddress 13 = .ok (.baload, 1) := by decide +kernel
theorem dX3_isAddress_14 : decode cX3_isAddress 14 = .ok (.ifCond .eq 7, 3) := by decide +kernel
theorem dX3_isAddress_17 : decode cX3_isAddress 17 = .ok (.iconst 1, 1) := by decide +kernel
theorem dX3_isAddress_18 : decode cX3_isAddress 18 = .ok (.goto 4, 3) := by decide +kernel
theorem dX3_isAddress_21 : decode cX3_isAddress 21 = .ok (.iconst 0, 1) := by decide +kernel
theorem dX3_isAddress_22 : decode cX3_isAddress 22 = .ok (.ireturn, 1) := by decide +kernel
set_option maxRecDepth 20000 in
theorem ggX3_add_X3_isFull : GoodIn wsX3_add wsX3_isFull := goodIn_r _ [8, 2, 9, 10, 11] (by decide +kernel) (by decide +kernel)
set_option maxRecDepth 20000 in
theorem gX3_add_X3_isFull : GoodIn wsX3_add (wsV RX3 27 RX3 yX3_isFull wsX3_isFull) := goodIn_app (goodIn_of _ (by decide +kernel)) ggX3_add_X3_isFull
theorem dX3_add_0 : decode cX3_add 0 = .ok (.aload_n 0, 1) := by decide +kernel
theorem dX3_add_1 : decode cX3_add 1 = .ok (.invokevirtual 27, 3) := by decide +kernel
theorem dX3_add_4 : decode cX3_add 4 = .ok (.ifCond .eq 4, 3) := by decide +kernel
theorem dX3_add_7 : decode cX3_add 7 = .ok (.return_, 1) := by decide +kernel
theorem dX3_add_8 : decode cX3_add 8 = .ok (.aload_n 0, 1) := by decide +kernel
theorem dX3_add_9 : decode cX3_add 9 = .ok (.getfield 9, 3) := by decide +kernel
theorem dX3_add_12 : decode cX3_add 12 = .ok (.aload_n 0, 1) := by decide +kernel
theorem dX3_add_13 : decode cX3_add 13 = .ok (.getfield 19, 3) := by decide +kernel
theorem dX3_add_16 : decode cX3_add 16 = .ok (.iload_n 1, 1) := by decide +kernel
theorem dX3_add_17 : decode cX3_add 17 = .ok (.iastore, 1) := by decide +kernel
theorem dX3_add_18 : decode cX3_add 18 = .ok (.aload_n 0, 1) := by decide +kernel
theorem dX3_add_19 : decode cX3_add 19 = .ok (.getfield 15, 3) := by decide +kernel
theorem dX3_add_22 : decode cX3_add 22 = .ok (.aload_n 0, 1) := by decide +kernel
theorem dX3_add_23 : decode cX3_add 23 = .ok (.getfield 19, 3) := by decide +kernel
theorem dX3_add_26 : decode cX3_add 26 = .ok (.iload_n 2, 1) := by decide +kernel
theorem dX3_add_27 : decode cX3_add 27 = .ok (.bastore, 1) := by decide +kernel
theorem dX3_add_28 : decode cX3_add 28 = .ok (.aload_n 0, 1) := by decide +kernel
theorem dX3_add_29 : decode cX3_add 29 = .ok (.dup, 1) := by decide +kernel
theorem dX3_add_30 : decode cX3_add 30 = .ok (.getfield 19, 3) := by decide +kernel
theorem dX3_add_33 : decode cX3_add 33 = .ok (.iconst 1, 1) := by decide +kernel
theorem dX3_add_34 : decode cX3_add 34 = .ok (.iadd, 1) := by decide +kernel
theorem dX3_add_35 : decode cX3_add 35 = .ok (.putfield 19, 3) := by decide +kernel
theorem dX3_add_38 : decode cX3_add 38 = .ok (.return_, 1) := by decide +kernel
set_option maxRecDepth 20000 in
theorem ggX3_replace_X3_holds : GoodIn wsX3_replace wsX3_holds := goodIn_r _ [6, 7, 8, 9, 10] (by decide +kernel) (by decide +kernel)
set_option maxRecDepth 20000 in
theorem gX3_replace_X3_holds : GoodIn wsX3_replace (wsV RX3 23 RX3 yX3_holds wsX3_holds) := goodIn_app (goodIn_of _ (by decide +kernel)) ggX3_replace_X3_holds
theorem dX3_replace_0 : decode cX3_replace 0 = .ok (.aload_n 0, 1) := by decide +kernel
theorem dX3_replace_1 : decode cX3_replace 1 = .ok (.iload_n 1, 1) := by decide +kernel
theorem dX3_replace_2 : decode cX3_replace 2 = .ok (.invokevirtual 23, 3) := by decide +kernel
theorem dX3_replace_5 : decode cX3_replace 5 = .ok (.ifCond .eq 10, 3) := by decide +kernel
theorem dX3_replace_8 : decode cX3_replace 8 = .ok (.aload_n 0, 1) := by decide +kernel
theorem dX3_replace_9 : decode cX3_replace 9 = .ok (.getfield 9, 3) := by decide +kernel
theorem dX3_replace_12 : decode cX3_replace 12 = .ok (.iload_n 1, 1) := by decide +kernel
theorem dX3_replace_13 : decode cX3_replace 13 = .ok (.iload_n 2, 1) := by decide +kernel
theorem dX3_replace_14 : decode cX3_replace 14 = .ok (.iastore, 1) := by decide +kernel
theorem dX3_replace_15 : decode cX3_replace 15 = .ok (.return_, 1) := by decide +kernel
theorem dX3_removeAll_0 : decode cX3_removeAll 0 = .ok (.aload_n 0, 1) := by decide +kernel
theorem dX3_removeAll_1 : decode cX3_removeAll 1 = .ok (.iconst 0, 1) := by decide +kernel
theorem dX3_removeAll_2 : decode cX3_removeAll 2 = .ok (.putfield 19, 3) := by decide +kernel
theorem dX3_removeAll_5 : decode cX3_removeAll 5 = .ok (.return_, 1) := by decide +kernel
set_option maxRecDepth 20000 in
theorem ggX4_init_X3_init : GoodIn wsX4_init wsX3_init := goodIn_r _ [24, 25, 2, 3, 26, 27, 28, 29, 30, 57, 58, 59] (by decide +kernel) (by decide +kernel)
set_option maxRecDepth 20000 in
theorem gX4_init_X3_init : GoodIn wsX4_init (wsX3_init) := ggX4_init_X3_init
set_option maxRecDepth 20000 in
theorem ggX4_init_X1_init : GoodIn wsX4_init wsX1_init := goodIn_r _ [33, 34, 2, 3, 26, 35, 36, 37, 38, 66, 67, 68, 69] (by decide +kernel) (by decide +kernel)
set_option maxRecDepth 20000 in
theorem gX4_init_X1_init : GoodIn wsX4_init (wsX1_init) := ggX4_init_X1_init
set_option maxRecDepth 20000 in
theorem ggX4_init_X0_init : GoodIn wsX4_init wsX0_init := goodIn_r _ [41, 42, 2, 3, 28, 43, 44, 26, 45, 46, 47, 48, 70, 71, 72, 73, 74, 75] (by decide +kernel) (by decide +kernel)
set_option maxRecDepth 20000 in
theorem gX4_init_X0_init : GoodIn wsX4_init (wsX0_init) := ggX4_init_X0_init
set_option maxRecDepth 20000 in
theorem ggX4_init_X2_init : GoodIn wsX4_init wsX2_init := goodIn_r _ [51, 52, 2, 3, 26, 53, 28, 54, 55, 56, 76, 77, 78, 79] (by decide +kernel) (by decide +kernel)
set_option maxRecDepth 20000 in
theorem gX4_init_X2_init : GoodIn wsX4_init (wsX2_init) := ggX4_init_X2_init
theorem dX4_init_0 : decode cX4_init 0 = .ok (.aload_n 0, 1) := by decide +kernel
theorem dX4_init_1 : decode cX4_init 1 = .ok (.invokespecial 1, 3) := by decide +kernel
theorem dX4_init_4 : decode cX4_init 4 = .ok (.aload_n 0, 1) := by decide +kernel
theorem dX4_init_5 : decode cX4_init 5 = .ok (.new 7, 3) := by decide +kernel
theorem dX4_init_8 : decode cX4_init 8 = .ok (.dup, 1) := by decide +kernel
theorem dX4_init_9 : decode cX4_init 9 = .ok (.invokespecial 9, 3) := by decide +kernel
theorem dX4_init_12 : decode cX4_init 12 = .ok (.putfield 10, 3) := by decide +kernel
theorem dX4_init_15 : decode cX4_init 15 = .ok (.aload_n 0, 1) := by decide +kernel
theorem dX4_init_16 : decode cX4_init 16 = .ok (.new 7, 3) := by decide +kernel
theorem dX4_init_19 : decode cX4_init 19 = .ok (.dup, 1) := by decide +kernel
theorem dX4_init_20 : decode cX4_init 20 = .ok (.invokespecial 9, 3) := by decide +kernel
theorem dX4_init_23 : decode cX4_init 23 = .ok (.putfield 16, 3) := by decide +kernel
theorem dX4_init_26 : decode cX4_init 26 = .ok (.aload_n 0, 1) := by decide +kernel
theorem dX4_init_27 : decode cX4_init 27 = .ok (.new 19, 3) := by decide +kernel
theorem dX4_init_30 : decode cX4_init 30 = .ok (.dup, 1) := by decide +kernel
theorem dX4_init_31 : decode cX4_init 31 = .ok (.invokespecial 21, 3) := by decide +kernel
theorem dX4_init_34 : decode cX4_init 34 = .ok (.putfield 22, 3) := by decide +kernel
theorem dX4_init_37 : decode cX4_init 37 = .ok (.aload_n 0, 1) := by decide +kernel
theorem dX4_init_38 : decode cX4_init 38 = .ok (.new 26, 3) := by decide +kernel
theorem dX4_init_41 : decode cX4_init 41 = .ok (.dup, 1) := by decide +kernel
theorem dX4_init_42 : decode cX4_init 42 = .ok (.invokespecial 28, 3) := by decide +kernel
theorem dX4_init_45 : decode cX4_init 45 = .ok (.putfield 29, 3) := by decide +kernel
theorem dX4_init_48 : decode cX4_init 48 = .ok (.aload_n 0, 1) := by decide +kernel
theorem dX4_init_49 : decode cX4_init 49 = .ok (.new 33, 3) := by decide +kernel
theorem dX4_init_52 : decode cX4_init 52 = .ok (.dup, 1) := by decide +kernel
theorem dX4_init_53 : decode cX4_init 53 = .ok (.invokespecial 35, 3) := by decide +kernel
theorem dX4_init_56 : decode cX4_init 56 = .ok (.putfield 36, 3) := by decide +kernel
theorem dX4_init_59 : decode cX4_init 59 = .ok (.aload_n 0, 1) := by decide +kernel
theorem dX4_init_60 : decode cX4_init 60 = .ok (.iconst 0, 1) := by decide +kernel
theorem dX4_init_61 : decode cX4_init 61 = .ok (.putfield 40, 3) := by decide +kernel
theorem dX4_init_64 : decode cX4_init 64 = .ok (.return_, 1) := by decide +kernel
set_option maxRecDepth 20000 in
theorem ggX4_appendOld_X4_append : GoodIn wsX4_appendOld wsX4_append := goodIn_r _ [6, 7, 8, 9, 5, 10, 11, 12, 13, 14, 15, 16, 17, 18, 19, 20, 21, 22, 23, 24, 25, 26, 27, 28, 29, 30, 31, 32, 33, 34, 35, 36] (by decide +kernel) (by decide +kernel)
set_option maxRecDepth 20000 in
theorem gX4_appendOld_X4_append : GoodIn wsX4_appendOld (wsV RX4 44 RX4 yX4_append wsX4_append) := goodIn_app (goodIn_of _ (by decide +kernel)) ggX4_appendOld_X4_append
theorem dX4_appendOld_0 : decode cX4_appendOld 0 = .ok (.aload_n 0, 1) := by decide +kernel
theorem dX4_appendOld_1 : decode cX4_appendOld 1 = .ok (.aload_n 0, 1) := by decide +kernel
theorem dX4_appendOld_2 : decode cX4_appendOld 2 = .ok (.getfield 10, 3) := by decide +kernel
theorem dX4_appendOld_5 : decode cX4_appendOld 5 = .ok (.iload_n 1, 1) := by decide +kernel
theorem dX4_appendOld_6 : decode cX4_appendOld 6 = .ok (.iload_n 2, 1) := by decide +kernel
theorem dX4_appendOld_7 : decode cX4_appendOld 7 = .ok (.invokevirtual 44, 3) := by decide +kernel
theorem dX4_appendOld_10 : decode cX4_appendOld 10 = .ok (.ireturn, 1) := by decide +kernel
set_option maxRecDepth 20000 in
theorem ggX4_appendNew_X4_append : GoodIn wsX4_appendNew wsX4_append := goodIn_r _ [6, 7, 8, 9, 5, 10, 11, 12, 13, 14, 15, 16, 17, 18, 19, 20, 21, 22, 23, 24, 25, 26, 27, 28, 29, 30, 31, 32, 33, 34, 35, 36] (by decide +kernel) (by decide +kernel)
set_option maxRecDepth 20000 in
theorem gX4_appendNew_X4_append : GoodIn wsX4_appendNew (wsV RX4 44 RX4 yX4_append wsX4_append) := goodIn_app (goodIn_of _ (by decide +kernel)) ggX4_appendNew_X4_append
theorem dX4_appendNew_0 : decode cX4_appendNew 0 = .ok (.aload_n 0, 1) := by decide +kernel
theorem dX4_appendNew_1 : decode cX4_appendNew 1 = .ok (.aload_n 0, 1) := by decide +kernel
theorem dX4_appendNew_2 : decode cX4_appendNew 2 = .ok (.getfield 16, 3) := by decide +kernel
theorem dX4_appendNew_5 : decode cX4_appendNew 5 = .ok (.iload_n 1, 1) := by decide +kernel
theorem dX4_appendNew_6 : decode cX4_appendNew 6 = .ok (.iload_n 2, 1) := by decide +kernel
theorem dX4_appendNew_7 : decode cX4_appendNew 7 = .ok (.invokevirtual 44, 3) := by decide +kernel
theorem dX4_appendNew_10 : decode cX4_appendNew 10 = .ok (.ireturn, 1) := by decide +kernel
set_option maxRecDepth 20000 in
theorem ggX4_setNew_X3_holds : GoodIn wsX4_setNew wsX3_holds := goodIn_r _ [7, 8, 29, 30, 31] (by decide +kernel) (by decide +kernel)
set_option maxRecDepth 20000 in
theorem gX4_setNew_X3_holds : GoodIn wsX4_setNew (wsV RX4 48 RX3 yX3_holds wsX3_holds) := goodIn_app (goodIn_of _ (by decide +kernel)) ggX4_setNew_X3_holds
set_option maxRecDepth 20000 in
theorem ggX4_setNew_X4_isValue : GoodIn wsX4_setNew wsX4_isValue := goodIn_r _ [12] (by decide +kernel) (by decide +kernel)
set_option maxRecDepth 20000 in
theorem gX4_setNew_X4_isValue : GoodIn wsX4_setNew (va_wsS RX4 52 yX4_isValue wsX4_isValue) := goodIn_app (goodIn_of _ (by decide +kernel)) ggX4_setNew_X4_isValue
set_option maxRecDepth 20000 in
theorem ggX4_setNew_X3_valueAt : GoodIn wsX4_setNew wsX3_valueAt := goodIn_r _ [16, 17, 18, 4, 5, 6, 7, 8, 29, 30, 31] (by decide +kernel) (by decide +kernel)
set_option maxRecDepth 20000 in
theorem gX4_setNew_X3_valueAt : GoodIn wsX4_setNew (wsV RX4 55 RX3 yX3_valueAt wsX3_valueAt) := goodIn_app (goodIn_of _ (by decide +kernel)) ggX4_setNew_X3_valueAt
set_option maxRecDepth 20000 in
theorem ggX4_setNew_X3_replace : GoodIn wsX4_setNew wsX3_replace := goodIn_r _ [22, 17, 18, 4, 5, 6, 7, 8, 29, 30, 31] (by decide +kernel) (by decide +kernel)
set_option maxRecDepth 20000 in
theorem gX4_setNew_X3_replace : GoodIn wsX4_setNew (wsV RX4 59 RX3 yX3_replace wsX3_replace) := goodIn_app (goodIn_of _ (by decide +kernel)) ggX4_setNew_X3_replace
theorem dX4_setNew_0 : decode cX4_setNew 0 = .ok (.aload_n 0, 1) := by decide +kernel
theorem dX4_setNew_1 : decode cX4_setNew 1 = .ok (.getfield 16, 3) := by decide +kernel
theorem dX4_setNew_4 : decode cX4_setNew 4 = .ok (.iload_n 1, 1) := by decide +kernel
theorem dX4_setNew_5 : decode cX4_setNew 5 = .ok (.invokevirtual 48, 3) := by decide +kernel
theorem dX4_setNew_8 : decode cX4_setNew 8 = .ok (.ifCond .ne 7, 3) := by decide +kernel
theorem dX4_setNew_11 : decode cX4_setNew 11 = .ok (.sipush (-10003), 3) := by decide +kernel
theorem dX4_setNew_14 : decode cX4_setNew 14 = .ok (.ireturn, 1) := by decide +kernel
theorem dX4_setNew_15 : decode cX4_setNew 15 = .ok (.iload_n 2, 1) := by decide +kernel
theorem dX4_setNew_16 : decode cX4_setNew 16 = .ok (.invokestatic 52, 3) := by decide +kernel
theorem dX4_setNew_19 : decode cX4_setNew 19 = .ok (.ifCond .ne 7, 3) := by decide +kernel
theorem dX4_setNew_22 : decode cX4_setNew 22 = .ok (.sipush (-10001), 3) := by decide +kernel
theorem dX4_setNew_25 : decode cX4_setNew 25 = .ok (.ireturn, 1) := by decide +kernel
theorem dX4_setNew_26 : decode cX4_setNew 26 = .ok (.aload_n 0, 1) := by decide +kernel
theorem dX4_setNew_27 : decode cX4_setNew 27 = .ok (.getfield 16, 3) := by decide +kernel
theorem dX4_setNew_30 : decode cX4_setNew 30 = .ok (.iload_n 1, 1) := by decide +kernel
theorem dX4_setNew_31 : decode cX4_setNew 31 = .ok (.invokevirtual 55, 3) := by decide +kernel
theorem dX4_setNew_34 : decode cX4_setNew 34 = .ok (.istore_n 3, 1) := by decide +kernel
theorem dX4_setNew_35 : decode cX4_setNew 35 = .ok (.aload_n 0, 1) := by decide +kernel
theorem dX4_setNew_36 : decode cX4_setNew 36 = .ok (.getfield 16, 3) := by decide +kernel
theorem dX4_setNew_39 : decode cX4_setNew 39 = .ok (.iload_n 1, 1) := by decide +kernel
theorem dX4_setNew_40 : decode cX4_setNew 40 = .ok (.iload_n 2, 1) := by decide +kernel
theorem dX4_setNew_41 : decode cX4_setNew 41 = .ok (.invokevirtual 59, 3) := by decide +kernel
theorem dX4_setNew_44 : decode cX4_setNew 44 = .ok (.aload_n 0, 1) := by decide +kernel
theorem dX4_setNew_45 : decode cX4_setNew 45 = .ok (.iconst 0, 1) := by decide +kernel
theorem dX4_setNew_46 : decode cX4_setNew 46 = .ok (.putfield 40, 3) := by decide +kernel
theorem dX4_setNew_49 : decode cX4_setNew 49 = .ok (.iload_n 3, 1) := by decide +kernel
theorem dX4_setNew_50 : decode cX4_setNew 50 = .ok (.ireturn, 1) := by decide +kernel
set_option maxRecDepth 20000 in
theorem ggX4_clear_X3_size : GoodIn wsX4_clear wsX3_size := goodIn_r _ [8, 9, 20, 21, 22] (by decide +kernel) (by decide +kernel)
set_option maxRecDepth 20000 in
theorem gX4_clear_X3_size : GoodIn wsX4_clear (wsV RX4 63 RX3 yX3_size wsX3_size) := goodIn_app (goodIn_of _ (by decide +kernel)) ggX4_clear_X3_size
set_option maxRecDepth 20000 in
theorem ggX4_clear_X3_removeAll : GoodIn wsX4_clear wsX3_removeAll := goodIn_r _ [13, 9, 20, 21, 22] (by decide +kernel) (by decide +kernel)
set_option maxRecDepth 20000 in
theorem gX4_clear_X3_removeAll : GoodIn wsX4_clear (wsV RX4 67 RX3 yX3_removeAll wsX3_removeAll) := goodIn_app (goodIn_of _ (by decide +kernel)) ggX4_clear_X3_removeAll
theorem dX4_clear_0 : decode cX4_clear 0 = .ok (.aload_n 0, 1) := by decide +kernel
theorem dX4_clear_1 : decode cX4_clear 1 = .ok (.getfield 10, 3) := by decide +kernel
theorem dX4_clear_4 : decode cX4_clear 4 = .ok (.invokevirtual 63, 3) := by decide +kernel
theorem dX4_clear_7 : decode cX4_clear 7 = .ok (.aload_n 0, 1) := by decide +kernel
theorem dX4_clear_8 : decode cX4_clear 8 = .ok (.getfield 16, 3) := by decide +kernel
theorem dX4_clear_11 : decode cX4_clear 11 = .ok (.invokevirtual 63, 3) := by decide +kernel
theorem dX4_clear_14 : decode cX4_clear 14 = .ok (.iadd, 1) := by decide +kernel
theorem dX4_clear_15 : decode cX4_clear 15 = .ok (.istore_n 1, 1) := by decide +kernel
theorem dX4_clear_16 : decode cX4_clear 16 = .ok (.aload_n 0, 1) := by decide +kernel
theorem dX4_clear_17 : decode cX4_clear 17 = .ok (.getfield 10, 3) := by decide +kernel
theorem dX4_clear_20 : decode cX4_clear 20 = .ok (.invokevirtual 67, 3) := by decide +kernel
theorem dX4_clear_23 : decode cX4_clear 23 = .ok (.aload_n 0, 1) := by decide +kernel
theorem dX4_clear_24 : decode cX4_clear 24 = .ok (.getfield 16, 3) := by decide +kernel
theorem dX4_clear_27 : decode cX4_clear 27 = .ok (.invokevirtual 67, 3) := by decide +kernel
theorem dX4_clear_30 : decode cX4_clear 30 = .ok (.aload_n 0, 1) := by decide +kernel
theorem dX4_clear_31 : decode cX4_clear 31 = .ok (.iconst 0, 1) := by decide +kernel
theorem dX4_clear_32 : decode cX4_clear 32 = .ok (.putfield 40, 3) := by decide +kernel
theorem dX4_clear_35 : decode cX4_clear 35 = .ok (.iload_n 1, 1) := by decide +kernel
theorem dX4_clear_36 : decode cX4_clear 36 = .ok (.ireturn, 1) := by decide +kernel
set_option maxRecDepth 20000 in
theorem ggX4_oldLength_X3_size : GoodIn wsX4_oldLength wsX3_size := goodIn_r _ [6, 7, 14, 15, 16] (by decide +kernel) (by decide +kernel)
set_option maxRecDepth 20000 in
theorem gX4_oldLength_X3_size : GoodIn wsX4_oldLength (wsV RX4 63 RX3 yX3_size wsX3_size) := goodIn_app (goodIn_of _ (by decide +kernel)) ggX4_oldLength_X3_size
theorem dX4_oldLength_0 : decode cX4_oldLength 0 = .ok (.aload_n 0, 1) := by decide +kernel
theorem dX4_oldLength_1 : decode cX4_oldLength 1 = .ok (.getfield 10, 3) := by decide +kernel
theorem dX4_oldLength_4 : decode cX4_oldLength 4 = .ok (.invokevirtual 63, 3) := by decide +kernel
theorem dX4_oldLength_7 : decode cX4_oldLength 7 = .ok (.ireturn, 1) := by decide +kernel
set_option maxRecDepth 20000 in
theorem ggX4_newLength_X3_size : GoodIn wsX4_newLength wsX3_size := goodIn_r _ [6, 7, 14, 15, 16] (by decide +kernel) (by decide +kernel)
set_option maxRecDepth 20000 in
theorem gX4_newLength_X3_size : GoodIn wsX4_newLength (wsV RX4 63 RX3 yX3_size wsX3_size) := goodIn_app (goodIn_of _ (by decide +kernel)) ggX4_newLength_X3_size
theorem dX4_newLength_0 : decode cX4_newLength 0 = .ok (.aload_n 0, 1) := by decide +kernel
theorem dX4_newLength_1 : decode cX4_newLength 1 = .ok (.getfield 16, 3) := by decide +kernel
theorem dX4_newLength_4 : decode cX4_newLength 4 = .ok (.invokevirtual 63, 3) := by decide +kernel
theorem dX4_newLength_7 : decode cX4_newLength 7 = .ok (.ireturn, 1) := by decide +kernel
set_option maxRecDepth 20000 in
theorem ggX4_newValue_X3_holds : GoodIn wsX4_newValue wsX3_holds := goodIn_r _ [6, 7, 20, 21, 22] (by decide +kernel) (by decide +kernel)
set_option maxRecDepth 20000 in
theorem gX4_newValue_X3_holds : GoodIn wsX4_newValue (wsV RX4 48 RX3 yX3_holds wsX3_holds) := goodIn_app (goodIn_of _ (by decide +kernel)) ggX4_newValue_X3_holds
set_option maxRecDepth 20000 in
theorem ggX4_newValue_X3_valueAt : GoodIn wsX4_newValue wsX3_valueAt := goodIn_r _ [11, 12, 13, 3, 4, 5, 6, 7, 20, 21, 22] (by decide +kernel) (by decide +kernel)
set_option maxRecDepth 20000 in
theorem gX4_newValue_X3_valueAt : GoodIn wsX4_newValue (wsV RX4 55 RX3 yX3_valueAt wsX3_valueAt) := goodIn_app (goodIn_of _ (by decide +kernel)) ggX4_newValue_X3_valueAt
theorem dX4_newValue_0 : decode cX4_newValue 0 = .ok (.aload_n 0, 1) := by decide +kernel
theorem dX4_newValue_1 : decode cX4_newValue 1 = .ok (.getfield 16, 3) := by decide +kernel
theorem dX4_newValue_4 : decode cX4_newValue 4 = .ok (.iload_n 1, 1) := by decide +kernel
theorem dX4_newValue_5 : decode cX4_newValue 5 = .ok (.invokevirtual 48, 3) := by decide +kernel
theorem dX4_newValue_8 : decode cX4_newValue 8 = .ok (.ifCond .eq 14, 3) := by decide +kernel
theorem dX4_newValue_11 : decode cX4_newValue 11 = .ok (.aload_n 0, 1) := by decide +kernel
theorem dX4_newValue_12 : decode cX4_newValue 12 = .ok (.getfield 16, 3) := by decide +kernel
theorem dX4_newValue_15 : decode cX4_newValue 15 = .ok (.iload_n 1, 1) := by decide +kernel
theorem dX4_newValue_16 : decode cX4_newValue 16 = .ok (.invokevirtual 55, 3) := by decide +kernel
theorem dX4_newValue_19 : decode cX4_newValue 19 = .ok (.goto 6, 3) := by decide +kernel
theorem dX4_newValue_22 : decode cX4_newValue 22 = .ok (.sipush (-10003), 3) := by decide +kernel
theorem dX4_newValue_25 : decode cX4_newValue 25 = .ok (.ireturn, 1) := by decide +kernel
set_option maxRecDepth 20000 in
theorem ggX4_append_X4_isValue : GoodIn wsX4_append wsX4_isValue := goodIn_r _ [5] (by decide +kernel) (by decide +kernel)
set_option maxRecDepth 20000 in
theorem gX4_append_X4_isValue : GoodIn wsX4_append (va_wsS RX4 52 yX4_isValue wsX4_isValue) := goodIn_app (goodIn_of _ (by decide +kernel)) ggX4_append_X4_isValue
set_option maxRecDepth 20000 in
theorem ggX4_append_X3_isFull : GoodIn wsX4_append wsX3_isFull := goodIn_r _ [10, 11, 29, 30, 31] (by decide +kernel) (by decide +kernel)
set_option maxRecDepth 20000 in
theorem gX4_append_X3_isFull : GoodIn wsX4_append (wsV RX4 70 RX3 yX3_isFull wsX3_isFull) := goodIn_app (goodIn_of _ (by decide +kernel)) ggX4_append_X3_isFull
set_option maxRecDepth 20000 in
theorem ggX4_append_X3_add : GoodIn wsX4_append wsX3_add := goodIn_r _ [15, 16, 11, 17, 18, 7, 8, 9, 10, 29, 30, 31] (by decide +kernel) (by decide +kernel)
set_option maxRecDepth 20000 in
theorem gX4_append_X3_add : GoodIn wsX4_append (wsV RX4 74 RX3 yX3_add wsX3_add) := goodIn_app (goodIn_of _ (by decide +kernel)) ggX4_append_X3_add
set_option maxRecDepth 20000 in
theorem ggX4_append_X3_size : GoodIn wsX4_append wsX3_size := goodIn_r _ [22, 11, 29, 30, 31] (by decide +kernel) (by decide +kernel)
set_option maxRecDepth 20000 in
theorem gX4_append_X3_size : GoodIn wsX4_append (wsV RX4 63 RX3 yX3_size wsX3_size) := goodIn_app (goodIn_of _ (by decide +kernel)) ggX4_append_X3_size
theorem dX4_append_0 : decode cX4_append 0 = .ok (.iload_n 2, 1) := by decide +kernel
theorem dX4_append_1 : decode cX4_append 1 = .ok (.invokestatic 52, 3) := by decide +kernel
theorem dX4_append_4 : decode cX4_append 4 = .ok (.ifCond .ne 7, 3) := by decide +kernel
theorem dX4_append_7 : decode cX4_append 7 = .ok (.sipush (-10001), 3) := by decide +kernel
theorem dX4_append_10 : decode cX4_append 10 = .ok (.ireturn, 1) := by decide +kernel
theorem dX4_append_11 : decode cX4_append 11 = .ok (.aload_n 1, 1) := by decide +kernel
theorem dX4_append_12 : decode cX4_append 12 = .ok (.invokevirtual 70, 3) := by decide +kernel
theorem dX4_append_15 : decode cX4_append 15 = .ok (.ifCond .eq 7, 3) := by decide +kernel
theorem dX4_append_18 : decode cX4_append 18 = .ok (.sipush (-10002), 3) := by decide +kernel
theorem dX4_append_21 : decode cX4_append 21 = .ok (.ireturn, 1) := by decide +kernel
theorem dX4_append_22 : decode cX4_append 22 = .ok (.aload_n 1, 1) := by decide +kernel
theorem dX4_append_23 : decode cX4_append 23 = .ok (.iload_n 2, 1) := by decide +kernel
theorem dX4_append_24 : decode cX4_append 24 = .ok (.iload_n 3, 1) := by decide +kernel
theorem dX4_append_25 : decode cX4_append 25 = .ok (.invokevirtual 74, 3) := by decide +kernel
theorem dX4_append_28 : decode cX4_append 28 = .ok (.aload_n 0, 1) := by decide +kernel
theorem dX4_append_29 : decode cX4_append 29 = .ok (.iconst 0, 1) := by decide +kernel
theorem dX4_append_30 : decode cX4_append 30 = .ok (.putfield 40, 3) := by decide +kernel
theorem dX4_append_33 : decode cX4_append 33 = .ok (.aload_n 1, 1) := by decide +kernel
theorem dX4_append_34 : decode cX4_append 34 = .ok (.invokevirtual 63, 3) := by decide +kernel
theorem dX4_append_37 : decode cX4_append 37 = .ok (.iconst 1, 1) := by decide +kernel
theorem dX4_append_38 : decode cX4_append 38 = .ok (.isub, 1) := by decide +kernel
theorem dX4_append_39 : decode cX4_append 39 = .ok (.ireturn, 1) := by decide +kernel
theorem dX4_isValue_0 : decode cX4_isValue 0 = .ok (.iload_n 0, 1) := by decide +kernel
theorem dX4_isValue_1 : decode cX4_isValue 1 = .ok (.ifCond .lt 14, 3) := by decide +kernel
theorem dX4_isValue_4 : decode cX4_isValue 4 = .ok (.iload_n 0, 1) := by decide +kernel
theorem dX4_isValue_5 : decode cX4_isValue 5 = .ok (.sipush 9999, 3) := by decide +kernel
theorem dX4_isValue_8 : decode cX4_isValue 8 = .ok (.if_icmp .gt 7, 3) := by decide +kernel
theorem dX4_isValue_11 : decode cX4_isValue 11 = .ok (.iconst 1, 1) := by decide +kernel
theorem dX4_isValue_12 : decode cX4_isValue 12 = .ok (.goto 4, 3) := by decide +kernel
theorem dX4_isValue_15 : decode cX4_isValue 15 = .ok (.iconst 0, 1) := by decide +kernel
theorem dX4_isValue_16 : decode cX4_isValue 16 = .ok (.ireturn, 1) := by decide +kernel
set_option maxRecDepth 20000 in
theorem ggX4_build_X0_align : GoodIn wsX4_build wsX0_align := goodIn_r _ [11, 12, 13, 14, 15, 16, 17, 18, 19, 20, 21, 22, 23, 10, 24, 25, 26, 27, 28, 29, 30, 31, 32, 33, 34, 35, 36, 37, 38, 39, 40, 41, 42, 43, 44, 45, 46, 47, 48, 49, 50, 51, 52, 53, 54, 55, 56, 57, 58, 59, 60, 61, 62, 63, 64, 65, 66, 67, 68, 69, 70, 71, 72, 73, 74, 75, 76, 77, 144, 145, 146, 147, 148, 149, 150, 151, 152, 153, 154, 155, 156] (by decide +kernel) (by decide +kernel)
set_option maxRecDepth 20000 in
theorem gX4_build_X0_align : GoodIn wsX4_build (wsV RX4 78 RX0 yX0_align wsX0_align) := goodIn_app (goodIn_of _ (by decide +kernel)) ggX4_build_X0_align
set_option maxRecDepth 20000 in
theorem ggX4_build_X2_arrange : GoodIn wsX4_build wsX2_arrange := goodIn_r _ [82, 83, 84, 85, 86, 87, 88, 18, 89, 20, 90, 91, 92, 93, 94, 95, 96, 81, 97, 98, 99, 100, 101, 102, 103, 104, 105, 106, 107, 108, 109, 110, 111, 112, 113, 75, 114, 115, 116, 117, 118, 76, 119, 120, 121, 122, 77, 123, 124, 125, 126, 127, 128, 129, 130, 131, 132, 133, 134, 135, 136, 157, 158, 159, 160, 150, 151, 152, 153] (by decide +kernel) (by decide +kernel)
set_option maxRecDepth 20000 in
theorem gX4_build_X2_arrange : GoodIn wsX4_build (wsV RX4 82 RX2 yX2_arrange wsX2_arrange) := goodIn_app (goodIn_of _ (by decide +kernel)) ggX4_build_X2_arrange
set_option maxRecDepth 20000 in
theorem ggX4_build_X1_size : GoodIn wsX4_build wsX1_size := goodIn_r _ [93, 20, 150, 151, 152, 153] (by decide +kernel) (by decide +kernel)
set_option maxRecDepth 20000 in
theorem gX4_build_X1_size : GoodIn wsX4_build (wsV RX4 86 RX1 yX1_size wsX1_size) := goodIn_app (goodIn_of _ (by decide +kernel)) ggX4_build_X1_size
theorem dX4_build_0 : decode cX4_build 0 = .ok (.iload_n 1, 1) := by decide +kernel
theorem dX4_build_1 : decode cX4_build 1 = .ok (.iconst 1, 1) := by decide +kernel
theorem dX4_build_2 : decode cX4_build 2 = .ok (.if_icmp .lt 9, 3) := by decide +kernel
theorem dX4_build_5 : decode cX4_build 5 = .ok (.iload_n 1, 1) := by decide +kernel
theorem dX4_build_6 : decode cX4_build 6 = .ok (.bipush 16, 2) := by decide +kernel
theorem dX4_build_8 : decode cX4_build 8 = .ok (.if_icmp .le 7, 3) := by decide +kernel
theorem dX4_build_11 : decode cX4_build 11 = .ok (.sipush (-10001), 3) := by decide +kernel
theorem dX4_build_14 : decode cX4_build 14 = .ok (.ireturn, 1) := by decide +kernel
theorem dX4_build_15 : decode cX4_build 15 = .ok (.aload_n 0, 1) := by decide +kernel
theorem dX4_build_16 : decode cX4_build 16 = .ok (.getfield 29, 3) := by decide +kernel
theorem dX4_build_19 : decode cX4_build 19 = .ok (.aload_n 0, 1) := by decide +kernel
theorem dX4_build_20 : decode cX4_build 20 = .ok (.getfield 10, 3) := by decide +kernel
theorem dX4_build_23 : decode cX4_build 23 = .ok (.aload_n 0, 1) := by decide +kernel
theorem dX4_build_24 : decode cX4_build 24 = .ok (.getfield 16, 3) := by decide +kernel
theorem dX4_build_27 : decode cX4_build 27 = .ok (.aload_n 0, 1) := by decide +kernel
theorem dX4_build_28 : decode cX4_build 28 = .ok (.getfield 22, 3) := by decide +kernel
theorem dX4_build_31 : decode cX4_build 31 = .ok (.iload_n 1, 1) := by decide +kernel
theorem dX4_build_32 : decode cX4_build 32 = .ok (.invokevirtual 78, 3) := by decide +kernel
theorem dX4_build_35 : decode cX4_build 35 = .ok (.aload_n 0, 1) := by decide +kernel
theorem dX4_build_36 : decode cX4_build 36 = .ok (.getfield 36, 3) := by decide +kernel
theorem dX4_build_39 : decode cX4_build 39 = .ok (.aload_n 0, 1) := by decide +kernel
theorem dX4_build_40 : decode cX4_build 40 = .ok (.getfield 22, 3) := by decide +kernel
theorem dX4_build_43 : decode cX4_build 43 = .ok (.invokevirtual 82, 3) := by decide +kernel
theorem dX4_build_46 : decode cX4_build 46 = .ok (.aload_n 0, 1) := by decide +kernel
theorem dX4_build_47 : decode cX4_build 47 = .ok (.iconst 1, 1) := by decide +kernel
theorem dX4_build_48 : decode cX4_build 48 = .ok (.putfield 40, 3) := by decide +kernel
theorem dX4_build_51 : decode cX4_build 51 = .ok (.aload_n 0, 1) := by decide +kernel
theorem dX4_build_52 : decode cX4_build 52 = .ok (.getfield 22, 3) := by decide +kernel
theorem dX4_build_55 : decode cX4_build 55 = .ok (.invokevirtual 86, 3) := by decide +kernel
theorem dX4_build_58 : decode cX4_build 58 = .ok (.ireturn, 1) := by decide +kernel
set_option maxRecDepth 20000 in
theorem ggX4_blockOldStart_X4_blockError : GoodIn wsX4_blockOldStart wsX4_blockError := goodIn_r _ [6, 7, 1, 8, 9, 10, 11, 12, 13, 20, 21, 22, 23, 24, 25, 26, 27, 28, 29] (by decide +kernel) (by decide +kernel)
set_option maxRecDepth 20000 in
theorem gX4_blockOldStart_X4_blockError : GoodIn wsX4_blockOldStart (wsV RX4 87 RX4 yX4_blockError wsX4_blockError) := goodIn_app (goodIn_of _ (by decide +kernel)) ggX4_blockOldStart_X4_blockError
set_option maxRecDepth 20000 in
theorem ggX4_blockOldStart_X1_oldStart : GoodIn wsX4_blockOldStart wsX1_oldStart := goodIn_r _ [17, 18, 19, 9, 10, 11, 12, 13, 26, 27, 28, 29] (by decide +kernel) (by decide +kernel)
set_option maxRecDepth 20000 in
theorem gX4_blockOldStart_X1_oldStart : GoodIn wsX4_blockOldStart (wsV RX4 90 RX1 yX1_oldStart wsX1_oldStart) := goodIn_app (goodIn_of _ (by decide +kernel)) ggX4_blockOldStart_X1_oldStart
theorem dX4_blockOldStart_0 : decode cX4_blockOldStart 0 = .ok (.aload_n 0, 1) := by decide +kernel
theorem dX4_blockOldStart_1 : decode cX4_blockOldStart 1 = .ok (.iload_n 1, 1) := by decide +kernel
theorem dX4_blockOldStart_2 : decode cX4_blockOldStart 2 = .ok (.invokevirtual 87, 3) := by decide +kernel
theorem dX4_blockOldStart_5 : decode cX4_blockOldStart 5 = .ok (.istore_n 2, 1) := by decide +kernel
theorem dX4_blockOldStart_6 : decode cX4_blockOldStart 6 = .ok (.iload_n 2, 1) := by decide +kernel
theorem dX4_blockOldStart_7 : decode cX4_blockOldStart 7 = .ok (.ifCond .eq 7, 3) := by decide +kernel
theorem dX4_blockOldStart_10 : decode cX4_blockOldStart 10 = .ok (.iload_n 2, 1) := by decide +kernel
theorem dX4_blockOldStart_11 : decode cX4_blockOldStart 11 = .ok (.goto 11, 3) := by decide +kernel
theorem dX4_blockOldStart_14 : decode cX4_blockOldStart 14 = .ok (.aload_n 0, 1) := by decide +kernel
theorem dX4_blockOldStart_15 : decode cX4_blockOldStart 15 = .ok (.getfield 22, 3) := by decide +kernel
theorem dX4_blockOldStart_18 : decode cX4_blockOldStart 18 = .ok (.iload_n 1, 1) := by decide +kernel
theorem dX4_blockOldStart_19 : decode cX4_blockOldStart 19 = .ok (.invokevirtual 90, 3) := by decide +kernel
theorem dX4_blockOldStart_22 : decode cX4_blockOldStart 22 = .ok (.ireturn, 1) := by decide +kernel
set_option maxRecDepth 20000 in
theorem ggX4_blockNewStart_X4_blockError : GoodIn wsX4_blockNewStart wsX4_blockError := goodIn_r _ [6, 7, 1, 8, 9, 10, 11, 12, 13, 20, 21, 22, 23, 24, 25, 26, 27, 28, 29] (by decide +kernel) (by decide +kernel)
set_option maxRecDepth 20000 in
theorem gX4_blockNewStart_X4_blockError : GoodIn wsX4_blockNewStart (wsV RX4 87 RX4 yX4_blockError wsX4_blockError) := goodIn_app (goodIn_of _ (by decide +kernel)) ggX4_blockNewStart_X4_blockError
set_option maxRecDepth 20000 in
theorem ggX4_blockNewStart_X1_newStart : GoodIn wsX4_blockNewStart wsX1_newStart := goodIn_r _ [17, 18, 19, 9, 10, 11, 12, 13, 26, 27, 28, 29] (by decide +kernel) (by decide +kernel)
set_option maxRecDepth 20000 in
theorem gX4_blockNewStart_X1_newStart : GoodIn wsX4_blockNewStart (wsV RX4 93 RX1 yX1_newStart wsX1_newStart) := goodIn_app (goodIn_of _ (by decide +kernel)) ggX4_blockNewStart_X1_newStart
theorem dX4_blockNewStart_0 : decode cX4_blockNewStart 0 = .ok (.aload_n 0, 1) := by decide +kernel
theorem dX4_blockNewStart_1 : decode cX4_blockNewStart 1 = .ok (.iload_n 1, 1) := by decide +kernel
theorem dX4_blockNewStart_2 : decode cX4_blockNewStart 2 = .ok (.invokevirtual 87, 3) := by decide +kernel
theorem dX4_blockNewStart_5 : decode cX4_blockNewStart 5 = .ok (.istore_n 2, 1) := by decide +kernel
theorem dX4_blockNewStart_6 : decode cX4_blockNewStart 6 = .ok (.iload_n 2, 1) := by decide +kernel
theorem dX4_blockNewStart_7 : decode cX4_blockNewStart 7 = .ok (.ifCond .eq 7, 3) := by decide +kernel
theorem dX4_blockNewStart_10 : decode cX4_blockNewStart 10 = .ok (.iload_n 2, 1) := by decide +kernel
theorem dX4_blockNewStart_11 : decode cX4_blockNewStart 11 = .ok (.goto 11, 3) := by decide +kernel
theorem dX4_blockNewStart_14 : decode cX4_blockNewStart 14 = .ok (.aload_n 0, 1) := by decide +kernel
theorem dX4_blockNewStart_15 : decode cX4_blockNewStart 15 = .ok (.getfield 22, 3) := by decide +kernel
theorem dX4_blockNewStart_18 : decode cX4_blockNewStart 18 = .ok (.iload_n 1, 1) := by decide +kernel
theorem dX4_blockNewStart_19 : decode cX4_blockNewStart 19 = .ok (.invokevirtual 93, 3) := by decide +kernel
theorem dX4_blockNewStart_22 : decode cX4_blockNewStart 22 = .ok (.ireturn, 1) := by decide +kernel
set_option maxRecDepth 20000 in
theorem ggX4_blockLength_X4_blockError : GoodIn wsX4_blockLength wsX4_blockError := goodIn_r _ [6, 7, 1, 8, 9, 10, 11, 12, 13, 20, 21, 22, 23, 24, 25, 26, 27, 28, 29] (by decide +kernel) (by decide +kernel)
set_option maxRecDepth 20000 in
theorem gX4_blockLength_X4_blockError : GoodIn wsX4_blockLength (wsV RX4 87 RX4 yX4_blockError wsX4_blockError) := goodIn_app (goodIn_of _ (by decide +kernel)) ggX4_blockLength_X4_blockError
set_option maxRecDepth 20000 in
theorem ggX4_blockLength_X1_length : GoodIn wsX4_blockLength wsX1_length := goodIn_r _ [17, 18, 19, 9, 10, 11, 12, 13, 26, 27, 28, 29] (by decide +kernel) (by decide +kernel)
set_option maxRecDepth 20000 in
theorem gX4_blockLength_X1_length : GoodIn wsX4_blockLength (wsV RX4 96 RX1 yX1_length wsX1_length) := goodIn_app (goodIn_of _ (by decide +kernel)) ggX4_blockLength_X1_length
theorem dX4_blockLength_0 : decode cX4_blockLength 0 = .ok (.aload_n 0, 1) := by decide +kernel
theorem dX4_blockLength_1 : decode cX4_blockLength 1 = .ok (.iload_n 1, 1) := by decide +kernel
theorem dX4_blockLength_2 : decode cX4_blockLength 2 = .ok (.invokevirtual 87, 3) := by decide +kernel
theorem dX4_blockLength_5 : decode cX4_blockLength 5 = .ok (.istore_n 2, 1) := by decide +kernel
theorem dX4_blockLength_6 : decode cX4_blockLength 6 = .ok (.iload_n 2, 1) := by decide +kernel
theorem dX4_blockLength_7 : decode cX4_blockLength 7 = .ok (.ifCond .eq 7, 3) := by decide +kernel
theorem dX4_blockLength_10 : decode cX4_blockLength 10 = .ok (.iload_n 2, 1) := by decide +kernel
theorem dX4_blockLength_11 : decode cX4_blockLength 11 = .ok (.goto 11, 3) := by decide +kernel
theorem dX4_blockLength_14 : decode cX4_blockLength 14 = .ok (.aload_n 0, 1) := by decide +kernel
theorem dX4_blockLength_15 : decode cX4_blockLength 15 = .ok (.getfield 22, 3) := by decide +kernel
theorem dX4_blockLength_18 : decode cX4_blockLength 18 = .ok (.iload_n 1, 1) := by decide +kernel
theorem dX4_blockLength_19 : decode cX4_blockLength 19 = .ok (.invokevirtual 96, 3) := by decide +kernel
theorem dX4_blockLength_22 : decode cX4_blockLength 22 = .ok (.ireturn, 1) := by decide +kernel
set_option maxRecDepth 20000 in
theorem ggX4_blockOf_X4_newWordError : GoodIn wsX4_blockOf wsX4_newWordError := goodIn_r _ [6, 7, 8, 9, 10, 11, 12, 13, 14, 39, 40, 41, 42, 43, 44, 45, 46, 47] (by decide +kernel) (by decide +kernel)
set_option maxRecDepth 20000 in
theorem gX4_blockOf_X4_newWordError : GoodIn wsX4_blockOf (wsV RX4 99 RX4 yX4_newWordError wsX4_newWordError) := goodIn_app (goodIn_of _ (by decide +kernel)) ggX4_blockOf_X4_newWordError
set_option maxRecDepth 20000 in
theorem ggX4_blockOf_X1_withNewIndex : GoodIn wsX4_blockOf wsX1_withNewIndex := goodIn_r _ [19, 20, 21, 22, 23, 18, 24, 25, 26, 27, 28, 29, 30, 31, 32, 33, 34, 35, 36, 37, 38, 48, 49, 50, 51] (by decide +kernel) (by decide +kernel)
set_option maxRecDepth 20000 in
theorem gX4_blockOf_X1_withNewIndex : GoodIn wsX4_blockOf (wsV RX4 102 RX1 yX1_withNewIndex wsX1_withNewIndex) := goodIn_app (goodIn_of _ (by decide +kernel)) ggX4_blockOf_X1_withNewIndex
theorem dX4_blockOf_0 : decode cX4_blockOf 0 = .ok (.aload_n 0, 1) := by decide +kernel
theorem dX4_blockOf_1 : decode cX4_blockOf 1 = .ok (.iload_n 1, 1) := by decide +kernel
theorem dX4_blockOf_2 : decode cX4_blockOf 2 = .ok (.invokevirtual 99, 3) := by decide +kernel
theorem dX4_blockOf_5 : decode cX4_blockOf 5 = .ok (.istore_n 2, 1) := by decide +kernel
theorem dX4_blockOf_6 : decode cX4_blockOf 6 = .ok (.iload_n 2, 1) := by decide +kernel
theorem dX4_blockOf_7 : decode cX4_blockOf 7 = .ok (.ifCond .eq 5, 3) := by decide +kernel
theorem dX4_blockOf_10 : decode cX4_blockOf 10 = .ok (.iload_n 2, 1) := by decide +kernel
theorem dX4_blockOf_11 : decode cX4_blockOf 11 = .ok (.ireturn, 1) := by decide +kernel
theorem dX4_blockOf_12 : decode cX4_blockOf 12 = .ok (.aload_n 0, 1) := by decide +kernel
theorem dX4_blockOf_13 : decode cX4_blockOf 13 = .ok (.getfield 22, 3) := by decide +kernel
theorem dX4_blockOf_16 : decode cX4_blockOf 16 = .ok (.iload_n 1, 1) := by decide +kernel
theorem dX4_blockOf_17 : decode cX4_blockOf 17 = .ok (.invokevirtual 102, 3) := by decide +kernel
theorem dX4_blockOf_20 : decode cX4_blockOf 20 = .ok (.istore_n 3, 1) := by decide +kernel
theorem dX4_blockOf_21 : decode cX4_blockOf 21 = .ok (.iload_n 3, 1) := by decide +kernel
theorem dX4_blockOf_22 : decode cX4_blockOf 22 = .ok (.iconst (-1), 1) := by decide +kernel
theorem dX4_blockOf_23 : decode cX4_blockOf 23 = .ok (.if_icmp .ne 9, 3) := by decide +kernel
theorem dX4_blockOf_26 : decode cX4_blockOf 26 = .ok (.sipush (-10005), 3) := by decide +kernel
theorem dX4_blockOf_29 : decode cX4_blockOf 29 = .ok (.goto 4, 3) := by decide +kernel
theorem dX4_blockOf_32 : decode cX4_blockOf 32 = .ok (.iload_n 3, 1) := by decide +kernel
theorem dX4_blockOf_33 : decode cX4_blockOf 33 = .ok (.ireturn, 1) := by decide +kernel
set_option maxRecDepth 20000 in
theorem ggX4_blockError_X1_has : GoodIn wsX4_blockError wsX1_has := goodIn_r _ [7, 8, 15, 16, 17, 18] (by decide +kernel) (by decide +kernel)
set_option maxRecDepth 20000 in
theorem gX4_blockError_X1_has : GoodIn wsX4_blockError (wsV RX4 105 RX1 yX1_has wsX1_has) := goodIn_app (goodIn_of _ (by decide +kernel)) ggX4_blockError_X1_has
theorem dX4_blockError_0 : decode cX4_blockError 0 = .ok (.aload_n 0, 1) := by decide +kernel
theorem dX4_blockError_1 : decode cX4_blockError 1 = .ok (.getfield 40, 3) := by decide +kernel
theorem dX4_blockError_4 : decode cX4_blockError 4 = .ok (.ifCond .ne 7, 3) := by decide +kernel
theorem dX4_blockError_7 : decode cX4_blockError 7 = .ok (.sipush (-10004), 3) := by decide +kernel
theorem dX4_blockError_10 : decode cX4_blockError 10 = .ok (.ireturn, 1) := by decide +kernel
theorem dX4_blockError_11 : decode cX4_blockError 11 = .ok (.aload_n 0, 1) := by decide +kernel
theorem dX4_blockError_12 : decode cX4_blockError 12 = .ok (.getfield 22, 3) := by decide +kernel
theorem dX4_blockError_15 : decode cX4_blockError 15 = .ok (.iload_n 1, 1) := by decide +kernel
theorem dX4_blockError_16 : decode cX4_blockError 16 = .ok (.invokevirtual 105, 3) := by decide +kernel
theorem dX4_blockError_19 : decode cX4_blockError 19 = .ok (.ifCond .eq 7, 3) := by decide +kernel
theorem dX4_blockError_22 : decode cX4_blockError 22 = .ok (.iconst 0, 1) := by decide +kernel
theorem dX4_blockError_23 : decode cX4_blockError 23 = .ok (.goto 6, 3) := by decide +kernel
theorem dX4_blockError_26 : decode cX4_blockError 26 = .ok (.sipush (-10003), 3) := by decide +kernel
theorem dX4_blockError_29 : decode cX4_blockError 29 = .ok (.ireturn, 1) := by decide +kernel
set_option maxRecDepth 20000 in
theorem ggX4_newWordError_X3_holds : GoodIn wsX4_newWordError wsX3_holds := goodIn_r _ [7, 8, 15, 16, 17] (by decide +kernel) (by decide +kernel)
set_option maxRecDepth 20000 in
theorem gX4_newWordError_X3_holds : GoodIn wsX4_newWordError (wsV RX4 48 RX3 yX3_holds wsX3_holds) := goodIn_app (goodIn_of _ (by decide +kernel)) ggX4_newWordError_X3_holds
theorem dX4_newWordError_0 : decode cX4_newWordError 0 = .ok (.aload_n 0, 1) := by decide +kernel
theorem dX4_newWordError_1 : decode cX4_newWordError 1 = .ok (.getfield 40, 3) := by decide +kernel
theorem dX4_newWordError_4 : decode cX4_newWordError 4 = .ok (.ifCond .ne 7, 3) := by decide +kernel
theorem dX4_newWordError_7 : decode cX4_newWordError 7 = .ok (.sipush (-10004), 3) := by decide +kernel
theorem dX4_newWordError_10 : decode cX4_newWordError 10 = .ok (.ireturn, 1) := by decide +kernel
theorem dX4_newWordError_11 : decode cX4_newWordError 11 = .ok (.aload_n 0, 1) := by decide +kernel
theorem dX4_newWordError_12 : decode cX4_newWordError 12 = .ok (.getfield 16, 3) := by decide +kernel
theorem dX4_newWordError_15 : decode cX4_newWordError 15 = .ok (.iload_n 1, 1) := by decide +kernel
theorem dX4_newWordError_16 : decode cX4_newWordError 16 = .ok (.invokevirtual 48, 3) := by decide +kernel
theorem dX4_newWordError_19 : decode cX4_newWordError 19 = .ok (.ifCond .eq 7, 3) := by decide +kernel
theorem dX4_newWordError_22 : decode cX4_newWordError 22 = .ok (.iconst 0, 1) := by decide +kernel
theorem dX4_newWordError_23 : decode cX4_newWordError 23 = .ok (.goto 6, 3) := by decide +kernel
theorem dX4_newWordError_26 : decode cX4_newWordError 26 = .ok (.sipush (-10003), 3) := by decide +kernel
theorem dX4_newWordError_29 : decode cX4_newWordError 29 = .ok (.ireturn, 1) := by decide +kernel
set_option maxRecDepth 20000 in
theorem ggX4_predictedAddress_X4_isValue : GoodIn wsX4_predictedAddress wsX4_isValue := goodIn_r _ [6] (by decide +kernel) (by decide +kernel)
set_option maxRecDepth 20000 in
theorem gX4_predictedAddress_X4_isValue : GoodIn wsX4_predictedAddress (va_wsS RX4 52 yX4_isValue wsX4_isValue) := goodIn_app (goodIn_of _ (by decide +kernel)) ggX4_predictedAddress_X4_isValue
set_option maxRecDepth 20000 in
theorem ggX4_predictedAddress_X1_moved : GoodIn wsX4_predictedAddress wsX1_moved := goodIn_r _ [11, 12, 13, 14, 15, 10, 16, 17, 18, 19, 20, 21, 22, 23, 24, 25, 26, 33, 34, 35, 36] (by decide +kernel) (by decide +kernel)
set_option maxRecDepth 20000 in
theorem gX4_predictedAddress_X1_moved : GoodIn wsX4_predictedAddress (wsV RX4 108 RX1 yX1_moved wsX1_moved) := goodIn_app (goodIn_of _ (by decide +kernel)) ggX4_predictedAddress_X1_moved
theorem dX4_predictedAddress_0 : decode cX4_predictedAddress 0 = .ok (.aload_n 0, 1) := by decide +kernel
theorem dX4_predictedAddress_1 : decode cX4_predictedAddress 1 = .ok (.getfield 40, 3) := by decide +kernel
theorem dX4_predictedAddress_4 : decode cX4_predictedAddress 4 = .ok (.ifCond .ne 7, 3) := by decide +kernel
theorem dX4_predictedAddress_7 : decode cX4_predictedAddress 7 = .ok (.sipush (-10004), 3) := by decide +kernel
theorem dX4_predictedAddress_10 : decode cX4_predictedAddress 10 = .ok (.ireturn, 1) := by decide +kernel
theorem dX4_predictedAddress_11 : decode cX4_predictedAddress 11 = .ok (.iload_n 1, 1) := by decide +kernel
theorem dX4_predictedAddress_12 : decode cX4_predictedAddress 12 = .ok (.invokestatic 52, 3) := by decide +kernel
theorem dX4_predictedAddress_15 : decode cX4_predictedAddress 15 = .ok (.ifCond .eq 14, 3) := by decide +kernel
theorem dX4_predictedAddress_18 : decode cX4_predictedAddress 18 = .ok (.aload_n 0, 1) := by decide +kernel
theorem dX4_predictedAddress_19 : decode cX4_predictedAddress 19 = .ok (.getfield 22, 3) := by decide +kernel
theorem dX4_predictedAddress_22 : decode cX4_predictedAddress 22 = .ok (.iload_n 1, 1) := by decide +kernel
theorem dX4_predictedAddress_23 : decode cX4_predictedAddress 23 = .ok (.invokevirtual 108, 3) := by decide +kernel
theorem dX4_predictedAddress_26 : decode cX4_predictedAddress 26 = .ok (.goto 6, 3) := by decide +kernel
theorem dX4_predictedAddress_29 : decode cX4_predictedAddress 29 = .ok (.sipush (-10001), 3) := by decide +kernel
theorem dX4_predictedAddress_32 : decode cX4_predictedAddress 32 = .ok (.ireturn, 1) := by decide +kernel
set_option maxRecDepth 20000 in
theorem ggX4_predictedValue_X4_newWordError : GoodIn wsX4_predictedValue wsX4_newWordError := goodIn_r _ [6, 7, 8, 9, 10, 11, 12, 13, 14, 68, 69, 70, 71, 72, 73, 74, 75, 76] (by decide +kernel) (by decide +kernel)
set_option maxRecDepth 20000 in
theorem gX4_predictedValue_X4_newWordError : GoodIn wsX4_predictedValue (wsV RX4 99 RX4 yX4_newWordError wsX4_newWordError) := goodIn_app (goodIn_of _ (by decide +kernel)) ggX4_predictedValue_X4_newWordError
set_option maxRecDepth 20000 in
theorem ggX4_predictedValue_X1_withNewIndex : GoodIn wsX4_predictedValue wsX1_withNewIndex := goodIn_r _ [19, 20, 21, 22, 23, 18, 24, 25, 26, 27, 28, 29, 30, 31, 32, 33, 34, 35, 36, 37, 38, 77, 78, 79, 80] (by decide +kernel) (by decide +kernel)
set_option maxRecDepth 20000 in
theorem gX4_predictedValue_X1_withNewIndex : GoodIn wsX4_predictedValue (wsV RX4 102 RX1 yX1_withNewIndex wsX1_withNewIndex) := goodIn_app (goodIn_of _ (by decide +kernel)) ggX4_predictedValue_X1_withNewIndex
set_option maxRecDepth 20000 in
theorem ggX4_predictedValue_X4_prediction : GoodIn wsX4_predictedValue wsX4_prediction := goodIn_r _ [42, 1, 43, 44, 45, 46, 18, 47, 25, 26, 27, 28, 29, 30, 31, 32, 33, 20, 48, 49, 50, 51, 52, 53, 54, 55, 12, 56, 57, 58, 10, 11, 13, 14, 59, 60, 61, 62, 63, 64, 65, 66, 67, 68, 69, 70, 71, 72, 73, 77, 78, 79, 80, 74, 75, 76] (by decide +kernel) (by decide +kernel)
set_option maxRecDepth 20000 in
theorem gX4_predictedValue_X4_prediction : GoodIn wsX4_predictedValue (wsV RX4 111 RX4 yX4_prediction wsX4_prediction) := goodIn_app (goodIn_of _ (by decide +kernel)) ggX4_predictedValue_X4_prediction
theorem dX4_predictedValue_0 : decode cX4_predictedValue 0 = .ok (.aload_n 0, 1) := by decide +kernel
theorem dX4_predictedValue_1 : decode cX4_predictedValue 1 = .ok (.iload_n 1, 1) := by decide +kernel
theorem dX4_predictedValue_2 : decode cX4_predictedValue 2 = .ok (.invokevirtual 99, 3) := by decide +kernel
theorem dX4_predictedValue_5 : decode cX4_predictedValue 5 = .ok (.istore_n 2, 1) := by decide +kernel
theorem dX4_predictedValue_6 : decode cX4_predictedValue 6 = .ok (.iload_n 2, 1) := by decide +kernel
theorem dX4_predictedValue_7 : decode cX4_predictedValue 7 = .ok (.ifCond .eq 5, 3) := by decide +kernel
theorem dX4_predictedValue_10 : decode cX4_predictedValue 10 = .ok (.iload_n 2, 1) := by decide +kernel
theorem dX4_predictedValue_11 : decode cX4_predictedValue 11 = .ok (.ireturn, 1) := by decide +kernel
theorem dX4_predictedValue_12 : decode cX4_predictedValue 12 = .ok (.aload_n 0, 1) := by decide +kernel
theorem dX4_predictedValue_13 : decode cX4_predictedValue 13 = .ok (.getfield 22, 3) := by decide +kernel
theorem dX4_predictedValue_16 : decode cX4_predictedValue 16 = .ok (.iload_n 1, 1) := by decide +kernel
theorem dX4_predictedValue_17 : decode cX4_predictedValue 17 = .ok (.invokevirtual 102, 3) := by decide +kernel
theorem dX4_predictedValue_20 : decode cX4_predictedValue 20 = .ok (.istore_n 3, 1) := by decide +kernel
theorem dX4_predictedValue_21 : decode cX4_predictedValue 21 = .ok (.iload_n 3, 1) := by decide +kernel
theorem dX4_predictedValue_22 : decode cX4_predictedValue 22 = .ok (.iconst (-1), 1) := by decide +kernel
theorem dX4_predictedValue_23 : decode cX4_predictedValue 23 = .ok (.if_icmp .ne 9, 3) := by decide +kernel
theorem dX4_predictedValue_26 : decode cX4_predictedValue 26 = .ok (.sipush (-10005), 3) := by decide +kernel
theorem dX4_predictedValue_29 : decode cX4_predictedValue 29 = .ok (.goto 9, 3) := by decide +kernel
theorem dX4_predictedValue_32 : decode cX4_predictedValue 32 = .ok (.aload_n 0, 1) := by decide +kernel
theorem dX4_predictedValue_33 : decode cX4_predictedValue 33 = .ok (.iload_n 3, 1) := by decide +kernel
theorem dX4_predictedValue_34 : decode cX4_predictedValue 34 = .ok (.iload_n 1, 1) := by decide +kernel
theorem dX4_predictedValue_35 : decode cX4_predictedValue 35 = .ok (.invokevirtual 111, 3) := by decide +kernel
theorem dX4_predictedValue_38 : decode cX4_predictedValue 38 = .ok (.ireturn, 1) := by decide +kernel
set_option maxRecDepth 20000 in
theorem ggX4_correctionCount_X4_corrections : GoodIn wsX4_correctionCount wsX4_corrections := goodIn_r _ [6, 7, 8, 9, 10, 11, 12, 13, 14, 15, 16, 5, 17, 18, 19, 20, 21, 22, 23, 24, 25, 26, 27, 28, 29, 30, 31, 32, 33, 34, 35, 36, 37, 38, 39, 40, 41, 42, 43, 44, 45, 46, 47, 48, 49, 50, 51, 52, 53, 54, 55, 56, 57, 58, 59, 60, 61, 62, 63, 64, 65, 66, 67, 68, 69, 70, 71, 72, 73, 74, 75, 76, 77, 78, 79, 80, 81, 82, 83, 84, 85, 86, 87] (by decide +kernel) (by decide +kernel)
set_option maxRecDepth 20000 in
theorem gX4_correctionCount_X4_corrections : GoodIn wsX4_correctionCount (wsV RX4 115 RX4 yX4_corrections wsX4_corrections) := goodIn_app (goodIn_of _ (by decide +kernel)) ggX4_correctionCount_X4_corrections
theorem dX4_correctionCount_0 : decode cX4_correctionCount 0 = .ok (.aload_n 0, 1) := by decide +kernel
theorem dX4_correctionCount_1 : decode cX4_correctionCount 1 = .ok (.getfield 40, 3) := by decide +kernel
theorem dX4_correctionCount_4 : decode cX4_correctionCount 4 = .ok (.ifCond .eq 10, 3) := by decide +kernel
theorem dX4_correctionCount_7 : decode cX4_correctionCount 7 = .ok (.aload_n 0, 1) := by decide +kernel
theorem dX4_correctionCount_8 : decode cX4_correctionCount 8 = .ok (.invokevirtual 115, 3) := by decide +kernel
theorem dX4_correctionCount_11 : decode cX4_correctionCount 11 = .ok (.goto 6, 3) := by decide +kernel
theorem dX4_correctionCount_14 : decode cX4_correctionCount 14 = .ok (.sipush (-10004), 3) := by decide +kernel
theorem dX4_correctionCount_17 : decode cX4_correctionCount 17 = .ok (.ireturn, 1) := by decide +kernel
set_option maxRecDepth 20000 in
theorem ggX4_correctionIndex_X3_size : GoodIn wsX4_correctionIndex wsX3_size := goodIn_r _ [7, 8, 77, 78, 79] (by decide +kernel) (by decide +kernel)
set_option maxRecDepth 20000 in
theorem gX4_correctionIndex_X3_size : GoodIn wsX4_correctionIndex (wsV RX4 63 RX3 yX3_size wsX3_size) := goodIn_app (goodIn_of _ (by decide +kernel)) ggX4_correctionIndex_X3_size
set_option maxRecDepth 20000 in
theorem ggX4_correctionIndex_X4_needsCorrection : GoodIn wsX4_correctionIndex wsX4_needsCorrection := goodIn_r _ [13, 14, 2, 15, 16, 17, 18, 19, 20, 21, 22, 23, 24, 25, 26, 27, 28, 29, 30, 31, 32, 33, 34, 35, 36, 37, 38, 39, 40, 41, 12, 42, 43, 44, 45, 46, 47, 48, 49, 50, 51, 52, 53, 54, 55, 6, 56, 57, 58, 59, 60, 61, 8, 62, 63, 64, 65, 66, 67, 68, 69, 70, 71, 72, 73, 74, 75, 76, 80, 81, 82, 83, 77, 78, 79] (by decide +kernel) (by decide +kernel)
set_option maxRecDepth 20000 in
theorem gX4_correctionIndex_X4_needsCorrection : GoodIn wsX4_correctionIndex (wsV RX4 118 RX4 yX4_needsCorrection wsX4_needsCorrection) := goodIn_app (goodIn_of _ (by decide +kernel)) ggX4_correctionIndex_X4_needsCorrection
theorem dX4_correctionIndex_0 : decode cX4_correctionIndex 0 = .ok (.aload_n 0, 1) := by decide +kernel
theorem dX4_correctionIndex_1 : decode cX4_correctionIndex 1 = .ok (.getfield 40, 3) := by decide +kernel
theorem dX4_correctionIndex_4 : decode cX4_correctionIndex 4 = .ok (.ifCond .ne 7, 3) := by decide +kernel
theorem dX4_correctionIndex_7 : decode cX4_correctionIndex 7 = .ok (.sipush (-10004), 3) := by decide +kernel
theorem dX4_correctionIndex_10 : decode cX4_correctionIndex 10 = .ok (.ireturn, 1) := by decide +kernel
theorem dX4_correctionIndex_11 : decode cX4_correctionIndex 11 = .ok (.iconst 0, 1) := by decide +kernel
theorem dX4_correctionIndex_12 : decode cX4_correctionIndex 12 = .ok (.istore_n 2, 1) := by decide +kernel
theorem dX4_correctionIndex_13 : decode cX4_correctionIndex 13 = .ok (.iconst 0, 1) := by decide +kernel
theorem dX4_correctionIndex_14 : decode cX4_correctionIndex 14 = .ok (.istore_n 3, 1) := by decide +kernel
theorem dX4_correctionIndex_15 : decode cX4_correctionIndex 15 = .ok (.iload_n 3, 1) := by decide +kernel
theorem dX4_correctionIndex_16 : decode cX4_correctionIndex 16 = .ok (.aload_n 0, 1) := by decide +kernel
theorem dX4_correctionIndex_17 : decode cX4_correctionIndex 17 = .ok (.getfield 16, 3) := by decide +kernel
theorem dX4_correctionIndex_20 : decode cX4_correctionIndex 20 = .ok (.invokevirtual 63, 3) := by decide +kernel
theorem dX4_correctionIndex_23 : decode cX4_correctionIndex 23 = .ok (.if_icmp .ge 27, 3) := by decide +kernel
theorem dX4_correctionIndex_26 : decode cX4_correctionIndex 26 = .ok (.aload_n 0, 1) := by decide +kernel
theorem dX4_correctionIndex_27 : decode cX4_correctionIndex 27 = .ok (.iload_n 3, 1) := by decide +kernel
theorem dX4_correctionIndex_28 : decode cX4_correctionIndex 28 = .ok (.invokevirtual 118, 3) := by decide +kernel
theorem dX4_correctionIndex_31 : decode cX4_correctionIndex 31 = .ok (.ifCond .eq 13, 3) := by decide +kernel
theorem dX4_correctionIndex_34 : decode cX4_correctionIndex 34 = .ok (.iload_n 2, 1) := by decide +kernel
theorem dX4_correctionIndex_35 : decode cX4_correctionIndex 35 = .ok (.iload_n 1, 1) := by decide +kernel
theorem dX4_correctionIndex_36 : decode cX4_correctionIndex 36 = .ok (.if_icmp .ne 5, 3) := by decide +kernel
theorem dX4_correctionIndex_39 : decode cX4_correctionIndex 39 = .ok (.iload_n 3, 1) := by decide +kernel
theorem dX4_correctionIndex_40 : decode cX4_correctionIndex 40 = .ok (.ireturn, 1) := by decide +kernel
theorem dX4_correctionIndex_41 : decode cX4_correctionIndex 41 = .ok (.iinc 2 1, 3) := by decide +kernel
theorem dX4_correctionIndex_44 : decode cX4_correctionIndex 44 = .ok (.iinc 3 1, 3) := by decide +kernel
theorem dX4_correctionIndex_47 : decode cX4_correctionIndex 47 = .ok (.goto (-32), 3) := by decide +kernel
theorem dX4_correctionIndex_50 : decode cX4_correctionIndex 50 = .ok (.sipush (-10003), 3) := by decide +kernel
theorem dX4_correctionIndex_53 : decode cX4_correctionIndex 53 = .ok (.ireturn, 1) := by decide +kernel
set_option maxRecDepth 20000 in
theorem ggX4_literalCount_X4_literals : GoodIn wsX4_literalCount wsX4_literals := goodIn_r _ [6, 7, 8, 9, 10, 11, 12, 13, 14, 15, 16, 17, 18, 19, 20, 21, 22, 23, 24, 25, 26, 27, 28, 29, 30, 31, 32, 33, 34, 35, 36, 37, 38, 39, 40, 41, 42] (by decide +kernel) (by decide +kernel)
set_option maxRecDepth 20000 in
theorem gX4_literalCount_X4_literals : GoodIn wsX4_literalCount (wsV RX4 121 RX4 yX4_literals wsX4_literals) := goodIn_app (goodIn_of _ (by decide +kernel)) ggX4_literalCount_X4_literals
theorem dX4_literalCount_0 : decode cX4_literalCount 0 = .ok (.aload_n 0, 1) := by decide +kernel
theorem dX4_literalCount_1 : decode cX4_literalCount 1 = .ok (.getfield 40, 3) := by decide +kernel
theorem dX4_literalCount_4 : decode cX4_literalCount 4 = .ok (.ifCond .eq 10, 3) := by decide +kernel
theorem dX4_literalCount_7 : decode cX4_literalCount 7 = .ok (.aload_n 0, 1) := by decide +kernel
theorem dX4_literalCount_8 : decode cX4_literalCount 8 = .ok (.invokevirtual 121, 3) := by decide +kernel
theorem dX4_literalCount_11 : decode cX4_literalCount 11 = .ok (.goto 6, 3) := by decide +kernel
theorem dX4_literalCount_14 : decode cX4_literalCount 14 = .ok (.sipush (-10004), 3) := by decide +kernel
theorem dX4_literalCount_17 : decode cX4_literalCount 17 = .ok (.ireturn, 1) := by decide +kernel
set_option maxRecDepth 20000 in
theorem ggX4_patchSize_X4_blocksAndLiteralsCost : GoodIn wsX4_patchSize wsX4_blocksAndLiteralsCost := goodIn_r _ [6, 7, 8, 9, 10, 11, 12, 13, 14, 15, 16, 5, 17, 18, 19, 20, 21, 22, 23, 24, 25, 26, 27, 28, 29, 30, 31, 32, 33, 88, 89, 90, 91, 92, 93, 94, 95, 96, 97, 98, 99, 100] (by decide +kernel) (by decide +kernel)
set_option maxRecDepth 20000 in
theorem gX4_patchSize_X4_blocksAndLiteralsCost : GoodIn wsX4_patchSize (wsV RX4 124 RX4 yX4_blocksAndLiteralsCost wsX4_blocksAndLiteralsCost) := goodIn_app (goodIn_of _ (by decide +kernel)) ggX4_patchSize_X4_blocksAndLiteralsCost
set_option maxRecDepth 20000 in
theorem ggX4_patchSize_X4_corrections : GoodIn wsX4_patchSize wsX4_corrections := goodIn_r _ [37, 18, 19, 20, 21, 22, 23, 24, 38, 39, 40, 5, 41, 7, 42, 43, 44, 11, 45, 13, 46, 47, 48, 49, 50, 51, 52, 53, 54, 30, 31, 32, 33, 55, 26, 27, 28, 29, 56, 57, 58, 59, 60, 61, 62, 63, 64, 65, 66, 67, 68, 69, 70, 71, 72, 73, 74, 75, 76, 77, 78, 79, 80, 81, 82, 83, 84, 85, 86, 87, 88, 89, 90, 91, 92, 93, 98, 99, 100, 94, 95, 96, 97] (by decide +kernel) (by decide +kernel)
set_option maxRecDepth 20000 in
theorem gX4_patchSize_X4_corrections : GoodIn wsX4_patchSize (wsV RX4 115 RX4 yX4_corrections wsX4_corrections) := goodIn_app (goodIn_of _ (by decide +kernel)) ggX4_patchSize_X4_corrections
theorem dX4_patchSize_0 : decode cX4_patchSize 0 = .ok (.aload_n 0, 1) := by decide +kernel
theorem dX4_patchSize_1 : decode cX4_patchSize 1 = .ok (.getfield 40, 3) := by decide +kernel
theorem dX4_patchSize_4 : decode cX4_patchSize 4 = .ok (.ifCond .eq 17, 3) := by decide +kernel
theorem dX4_patchSize_7 : decode cX4_patchSize 7 = .ok (.aload_n 0, 1) := by decide +kernel
theorem dX4_patchSize_8 : decode cX4_patchSize 8 = .ok (.invokevirtual 124, 3) := by decide +kernel
theorem dX4_patchSize_11 : decode cX4_patchSize 11 = .ok (.aload_n 0, 1) := by decide +kernel
theorem dX4_patchSize_12 : decode cX4_patchSize 12 = .ok (.invokevirtual 115, 3) := by decide +kernel
theorem dX4_patchSize_15 : decode cX4_patchSize 15 = .ok (.iconst 2, 1) := by decide +kernel
theorem dX4_patchSize_16 : decode cX4_patchSize 16 = .ok (.imul, 1) := by decide +kernel
theorem dX4_patchSize_17 : decode cX4_patchSize 17 = .ok (.iadd, 1) := by decide +kernel
theorem dX4_patchSize_18 : decode cX4_patchSize 18 = .ok (.goto 6, 3) := by decide +kernel
theorem dX4_patchSize_21 : decode cX4_patchSize 21 = .ok (.sipush (-10004), 3) := by decide +kernel
theorem dX4_patchSize_24 : decode cX4_patchSize 24 = .ok (.ireturn, 1) := by decide +kernel
set_option maxRecDepth 20000 in
theorem ggX4_unpredictedSize_X4_blocksAndLiteralsCost : GoodIn wsX4_unpredictedSize wsX4_blocksAndLiteralsCost := goodIn_r _ [6, 7, 8, 9, 10, 11, 12, 13, 14, 15, 16, 5, 17, 18, 19, 20, 21, 22, 23, 24, 25, 26, 27, 28, 29, 30, 31, 32, 33, 75, 76, 77, 78, 79, 80, 81, 82, 83, 84, 85, 86, 87] (by decide +kernel) (by decide +kernel)
set_option maxRecDepth 20000 in
theorem gX4_unpredictedSize_X4_blocksAndLiteralsCost : GoodIn wsX4_unpredictedSize (wsV RX4 124 RX4 yX4_blocksAndLiteralsCost wsX4_blocksAndLiteralsCost) := goodIn_app (goodIn_of _ (by decide +kernel)) ggX4_unpredictedSize_X4_blocksAndLiteralsCost
set_option maxRecDepth 20000 in
theorem ggX4_unpredictedSize_X4_changedWords : GoodIn wsX4_unpredictedSize wsX4_changedWords := goodIn_r _ [37, 18, 19, 20, 21, 22, 23, 24, 38, 39, 40, 5, 41, 7, 42, 43, 44, 45, 11, 46, 13, 47, 48, 49, 50, 51, 52, 53, 54, 55, 30, 31, 32, 33, 56, 26, 27, 28, 29, 57, 58, 59, 60, 61, 62, 63, 64, 65, 66, 67, 68, 69, 70, 71, 72, 73, 74, 75, 76, 77, 78, 79, 80, 85, 86, 87, 81, 82, 83, 84] (by decide +kernel) (by decide +kernel)
set_option maxRecDepth 20000 in
theorem gX4_unpredictedSize_X4_changedWords : GoodIn wsX4_unpredictedSize (wsV RX4 127 RX4 yX4_changedWords wsX4_changedWords) := goodIn_app (goodIn_of _ (by decide +kernel)) ggX4_unpredictedSize_X4_changedWords
theorem dX4_unpredictedSize_0 : decode cX4_unpredictedSize 0 = .ok (.aload_n 0, 1) := by decide +kernel
theorem dX4_unpredictedSize_1 : decode cX4_unpredictedSize 1 = .ok (.getfield 40, 3) := by decide +kernel
theorem dX4_unpredictedSize_4 : decode cX4_unpredictedSize 4 = .ok (.ifCond .eq 17, 3) := by decide +kernel
theorem dX4_unpredictedSize_7 : decode cX4_unpredictedSize 7 = .ok (.aload_n 0, 1) := by decide +kernel
theorem dX4_unpredictedSize_8 : decode cX4_unpredictedSize 8 = .ok (.invokevirtual 124, 3) := by decide +kernel
theorem dX4_unpredictedSize_11 : decode cX4_unpredictedSize 11 = .ok (.aload_n 0, 1) := by decide +kernel
theorem dX4_unpredictedSize_12 : decode cX4_unpredictedSize 12 = .ok (.invokevirtual 127, 3) := by decide +kernel
theorem dX4_unpredictedSize_15 : decode cX4_unpredictedSize 15 = .ok (.iconst 2, 1) := by decide +kernel
theorem dX4_unpredictedSize_16 : decode cX4_unpredictedSize 16 = .ok (.imul, 1) := by decide +kernel
theorem dX4_unpredictedSize_17 : decode cX4_unpredictedSize 17 = .ok (.iadd, 1) := by decide +kernel
theorem dX4_unpredictedSize_18 : decode cX4_unpredictedSize 18 = .ok (.goto 6, 3) := by decide +kernel
theorem dX4_unpredictedSize_21 : decode cX4_unpredictedSize 21 = .ok (.sipush (-10004), 3) := by decide +kernel
theorem dX4_unpredictedSize_24 : decode cX4_unpredictedSize 24 = .ok (.ireturn, 1) := by decide +kernel
set_option maxRecDepth 20000 in
theorem ggX4_prediction_X1_oldIndex : GoodIn wsX4_prediction wsX1_oldIndex := goodIn_r _ [7, 8, 9, 10, 6, 11, 12, 13, 14, 15, 16, 17, 18, 19, 20, 21, 22, 49, 50, 51, 52] (by decide +kernel) (by decide +kernel)
set_option maxRecDepth 20000 in
theorem gX4_prediction_X1_oldIndex : GoodIn wsX4_prediction (wsV RX4 130 RX1 yX1_oldIndex wsX1_oldIndex) := goodIn_app (goodIn_of _ (by decide +kernel)) ggX4_prediction_X1_oldIndex
set_option maxRecDepth 20000 in
theorem ggX4_prediction_X3_valueAt : GoodIn wsX4_prediction wsX3_valueAt := goodIn_r _ [27, 28, 29, 30, 31, 26, 32, 33, 53, 54, 55] (by decide +kernel) (by decide +kernel)
set_option maxRecDepth 20000 in
theorem gX4_prediction_X3_valueAt : GoodIn wsX4_prediction (wsV RX4 55 RX3 yX3_valueAt wsX3_valueAt) := goodIn_app (goodIn_of _ (by decide +kernel)) ggX4_prediction_X3_valueAt
set_option maxRecDepth 20000 in
theorem ggX4_prediction_X3_isAddress : GoodIn wsX4_prediction wsX3_isAddress := goodIn_r _ [37, 38, 29, 30, 31, 26, 32, 33, 53, 54, 55] (by decide +kernel) (by decide +kernel)
set_option maxRecDepth 20000 in
theorem gX4_prediction_X3_isAddress : GoodIn wsX4_prediction (wsV RX4 133 RX3 yX3_isAddress wsX3_isAddress) := goodIn_app (goodIn_of _ (by decide +kernel)) ggX4_prediction_X3_isAddress
set_option maxRecDepth 20000 in
theorem ggX4_prediction_X1_moved : GoodIn wsX4_prediction wsX1_moved := goodIn_r _ [42, 17, 18, 19, 20, 6, 21, 22, 13, 14, 15, 16, 8, 9, 10, 11, 12, 49, 50, 51, 52] (by decide +kernel) (by decide +kernel)
set_option maxRecDepth 20000 in
theorem gX4_prediction_X1_moved : GoodIn wsX4_prediction (wsV RX4 108 RX1 yX1_moved wsX1_moved) := goodIn_app (goodIn_of _ (by decide +kernel)) ggX4_prediction_X1_moved
theorem dX4_prediction_0 : decode cX4_prediction 0 = .ok (.aload_n 0, 1) := by decide +kernel
theorem dX4_prediction_1 : decode cX4_prediction 1 = .ok (.getfield 22, 3) := by decide +kernel
theorem dX4_prediction_4 : decode cX4_prediction 4 = .ok (.iload_n 1, 1) := by decide +kernel
theorem dX4_prediction_5 : decode cX4_prediction 5 = .ok (.iload_n 2, 1) := by decide +kernel
theorem dX4_prediction_6 : decode cX4_prediction 6 = .ok (.invokevirtual 130, 3) := by decide +kernel
theorem dX4_prediction_9 : decode cX4_prediction 9 = .ok (.istore_n 3, 1) := by decide +kernel
theorem dX4_prediction_10 : decode cX4_prediction 10 = .ok (.aload_n 0, 1) := by decide +kernel
theorem dX4_prediction_11 : decode cX4_prediction 11 = .ok (.getfield 10, 3) := by decide +kernel
theorem dX4_prediction_14 : decode cX4_prediction 14 = .ok (.iload_n 3, 1) := by decide +kernel
theorem dX4_prediction_15 : decode cX4_prediction 15 = .ok (.invokevirtual 55, 3) := by decide +kernel
theorem dX4_prediction_18 : decode cX4_prediction 18 = .ok (.istore 4, 2) := by decide +kernel
theorem dX4_prediction_20 : decode cX4_prediction 20 = .ok (.aload_n 0, 1) := by decide +kernel
theorem dX4_prediction_21 : decode cX4_prediction 21 = .ok (.getfield 10, 3) := by decide +kernel
theorem dX4_prediction_24 : decode cX4_prediction 24 = .ok (.iload_n 3, 1) := by decide +kernel
theorem dX4_prediction_25 : decode cX4_prediction 25 = .ok (.invokevirtual 133, 3) := by decide +kernel
theorem dX4_prediction_28 : decode cX4_prediction 28 = .ok (.ifCond .eq 15, 3) := by decide +kernel
theorem dX4_prediction_31 : decode cX4_prediction 31 = .ok (.aload_n 0, 1) := by decide +kernel
theorem dX4_prediction_32 : decode cX4_prediction 32 = .ok (.getfield 22, 3) := by decide +kernel
theorem dX4_prediction_35 : decode cX4_prediction 35 = .ok (.iload 4, 2) := by decide +kernel
theorem dX4_prediction_37 : decode cX4_prediction 37 = .ok (.invokevirtual 108, 3) := by decide +kernel
theorem dX4_prediction_40 : decode cX4_prediction 40 = .ok (.goto 5, 3) := by decide +kernel
theorem dX4_prediction_43 : decode cX4_prediction 43 = .ok (.iload 4, 2) := by decide +kernel
theorem dX4_prediction_45 : decode cX4_prediction 45 = .ok (.ireturn, 1) := by decide +kernel
set_option maxRecDepth 20000 in
theorem ggX4_needsCorrection_X1_withNewIndex : GoodIn wsX4_needsCorrection wsX1_withNewIndex := goodIn_r _ [7, 8, 9, 10, 11, 6, 12, 13, 14, 15, 16, 17, 18, 19, 20, 21, 22, 23, 24, 25, 26, 68, 69, 70, 71] (by decide +kernel) (by decide +kernel)
set_option maxRecDepth 20000 in
theorem gX4_needsCorrection_X1_withNewIndex : GoodIn wsX4_needsCorrection (wsV RX4 102 RX1 yX1_withNewIndex wsX1_withNewIndex) := goodIn_app (goodIn_of _ (by decide +kernel)) ggX4_needsCorrection_X1_withNewIndex
set_option maxRecDepth 20000 in
theorem ggX4_needsCorrection_X4_prediction : GoodIn wsX4_needsCorrection wsX4_prediction := goodIn_r _ [31, 1, 32, 33, 34, 35, 6, 36, 13, 14, 15, 16, 17, 18, 19, 20, 21, 8, 37, 38, 39, 40, 41, 42, 43, 44, 45, 46, 47, 48, 49, 50, 51, 52, 53, 54, 55, 56, 57, 58, 59, 60, 61, 62, 63, 64, 65, 66, 67, 68, 69, 70, 71, 72, 73, 74] (by decide +kernel) (by decide +kernel)
set_option maxRecDepth 20000 in
theorem gX4_needsCorrection_X4_prediction : GoodIn wsX4_needsCorrection (wsV RX4 111 RX4 yX4_prediction wsX4_prediction) := goodIn_app (goodIn_of _ (by decide +kernel)) ggX4_needsCorrection_X4_prediction
set_option maxRecDepth 20000 in
theorem ggX4_needsCorrection_X3_valueAt : GoodIn wsX4_needsCorrection wsX3_valueAt := goodIn_r _ [46, 47, 48, 49, 50, 45, 51, 52, 72, 73, 74] (by decide +kernel) (by decide +kernel)
set_option maxRecDepth 20000 in
theorem gX4_needsCorrection_X3_valueAt : GoodIn wsX4_needsCorrection (wsV RX4 55 RX3 yX3_valueAt wsX3_valueAt) := goodIn_app (goodIn_of _ (by decide +kernel)) ggX4_needsCorrection_X3_valueAt
theorem dX4_needsCorrection_0 : decode cX4_needsCorrection 0 = .ok (.aload_n 0, 1) := by decide +kernel
theorem dX4_needsCorrection_1 : decode cX4_needsCorrection 1 = .ok (.getfield 22, 3) := by decide +kernel
theorem dX4_needsCorrection_4 : decode cX4_needsCorrection 4 = .ok (.iload_n 1, 1) := by decide +kernel
theorem dX4_needsCorrection_5 : decode cX4_needsCorrection 5 = .ok (.invokevirtual 102, 3) := by decide +kernel
theorem dX4_needsCorrection_8 : decode cX4_needsCorrection 8 = .ok (.istore_n 2, 1) := by decide +kernel
theorem dX4_needsCorrection_9 : decode cX4_needsCorrection 9 = .ok (.iload_n 2, 1) := by decide +kernel
theorem dX4_needsCorrection_10 : decode cX4_needsCorrection 10 = .ok (.iconst (-1), 1) := by decide +kernel
theorem dX4_needsCorrection_11 : decode cX4_needsCorrection 11 = .ok (.if_icmp .eq 24, 3) := by decide +kernel
theorem dX4_needsCorrection_14 : decode cX4_needsCorrection 14 = .ok (.aload_n 0, 1) := by decide +kernel
theorem dX4_needsCorrection_15 : decode cX4_needsCorrection 15 = .ok (.iload_n 2, 1) := by decide +kernel
theorem dX4_needsCorrection_16 : decode cX4_needsCorrection 16 = .ok (.iload_n 1, 1) := by decide +kernel
theorem dX4_needsCorrection_17 : decode cX4_needsCorrection 17 = .ok (.invokevirtual 111, 3) := by decide +kernel
theorem dX4_needsCorrection_20 : decode cX4_needsCorrection 20 = .ok (.aload_n 0, 1) := by decide +kernel
theorem dX4_needsCorrection_21 : decode cX4_needsCorrection 21 = .ok (.getfield 16, 3) := by decide +kernel
theorem dX4_needsCorrection_24 : decode cX4_needsCorrection 24 = .ok (.iload_n 1, 1) := by decide +kernel
theorem dX4_needsCorrection_25 : decode cX4_needsCorrection 25 = .ok (.invokevirtual 55, 3) := by decide +kernel
theorem dX4_needsCorrection_28 : decode cX4_needsCorrection 28 = .ok (.if_icmp .eq 7, 3) := by decide +kernel
theorem dX4_needsCorrection_31 : decode cX4_needsCorrection 31 = .ok (.iconst 1, 1) := by decide +kernel
theorem dX4_needsCorrection_32 : decode cX4_needsCorrection 32 = .ok (.goto 4, 3) := by decide +kernel
theorem dX4_needsCorrection_35 : decode cX4_needsCorrection 35 = .ok (.iconst 0, 1) := by decide +kernel
theorem dX4_needsCorrection_36 : decode cX4_needsCorrection 36 = .ok (.ireturn, 1) := by decide +kernel
set_option maxRecDepth 20000 in
theorem ggX4_isChanged_X1_withNewIndex : GoodIn wsX4_isChanged wsX1_withNewIndex := goodIn_r _ [8, 9, 10, 11, 12, 7, 13, 14, 15, 16, 17, 18, 19, 20, 21, 22, 23, 24, 25, 26, 27, 54, 55, 56, 57] (by decide +kernel) (by decide +kernel)
set_option maxRecDepth 20000 in
theorem gX4_isChanged_X1_withNewIndex : GoodIn wsX4_isChanged (wsV RX4 102 RX1 yX1_withNewIndex wsX1_withNewIndex) := goodIn_app (goodIn_of _ (by decide +kernel)) ggX4_isChanged_X1_withNewIndex
set_option maxRecDepth 20000 in
theorem ggX4_isChanged_X1_oldIndex : GoodIn wsX4_isChanged wsX1_oldIndex := goodIn_r _ [31, 14, 15, 16, 7, 17, 18, 19, 20, 21, 22, 9, 32, 33, 34, 35, 36, 54, 55, 56, 57] (by decide +kernel) (by decide +kernel)
set_option maxRecDepth 20000 in
theorem gX4_isChanged_X1_oldIndex : GoodIn wsX4_isChanged (wsV RX4 130 RX1 yX1_oldIndex wsX1_oldIndex) := goodIn_app (goodIn_of _ (by decide +kernel)) ggX4_isChanged_X1_oldIndex
set_option maxRecDepth 20000 in
theorem ggX4_isChanged_X3_valueAt : GoodIn wsX4_isChanged wsX3_valueAt := goodIn_r _ [41, 42, 43, 44, 45, 40, 46, 47, 58, 59, 60] (by decide +kernel) (by decide +kernel)
set_option maxRecDepth 20000 in
theorem gX4_isChanged_X3_valueAt : GoodIn wsX4_isChanged (wsV RX4 55 RX3 yX3_valueAt wsX3_valueAt) := goodIn_app (goodIn_of _ (by decide +kernel)) ggX4_isChanged_X3_valueAt
end
section
theorem dX4_isChanged_0 : decode cX4_isChanged 0 = .ok (.aload_n 0, 1) := by decide +kernel
theorem dX4_isChanged_1 : decode cX4_isChanged 1 = .ok (.getfield 22, 3) := by decide +kernel
theorem dX4_isChanged_4 : decode cX4_isChanged 4 = .ok (.iload_n 1, 1) := by decide +kernel
theorem dX4_isChanged_5 : decode cX4_isChanged 5 = .ok (.invokevirtual 102, 3) := by decide +kernel
theorem dX4_isChanged_8 : decode cX4_isChanged 8 = .ok (.istore_n 2, 1) := by decide +kernel
theorem dX4_isChanged_9 : decode cX4_isChanged 9 = .ok (.iload_n 2, 1) := by decide +kernel
theorem dX4_isChanged_10 : decode cX4_isChanged 10 = .ok (.iconst (-1), 1) := by decide +kernel
theorem dX4_isChanged_11 : decode cX4_isChanged 11 = .ok (.if_icmp .eq 34, 3) := by decide +kernel
theorem dX4_isChanged_14 : decode cX4_isChanged 14 = .ok (.aload_n 0, 1) := by decide +kernel
theorem dX4_isChanged_15 : decode cX4_isChanged 15 = .ok (.getfield 10, 3) := by decide +kernel
theorem dX4_isChanged_18 : decode cX4_isChanged 18 = .ok (.aload_n 0, 1) := by decide +kernel
theorem dX4_isChanged_19 : decode cX4_isChanged 19 = .ok (.getfield 22, 3) := by decide +kernel
theorem dX4_isChanged_22 : decode cX4_isChanged 22 = .ok (.iload_n 2, 1) := by decide +kernel
theorem dX4_isChanged_23 : decode cX4_isChanged 23 = .ok (.iload_n 1, 1) := by decide +kernel
theorem dX4_isChanged_24 : decode cX4_isChanged 24 = .ok (.invokevirtual 130, 3) := by decide +kernel
theorem dX4_isChanged_27 : decode cX4_isChanged 27 = .ok (.invokevirtual 55, 3) := by decide +kernel
theorem dX4_isChanged_30 : decode cX4_isChanged 30 = .ok (.aload_n 0, 1) := by decide +kernel
theorem dX4_isChanged_31 : decode cX4_isChanged 31 = .ok (.getfield 16, 3) := by decide +kernel
theorem dX4_isChanged_34 : decode cX4_isChanged 34 = .ok (.iload_n 1, 1) := by decide +kernel
theorem dX4_isChanged_35 : decode cX4_isChanged 35 = .ok (.invokevirtual 55, 3) := by decide +kernel
theorem dX4_isChanged_38 : decode cX4_isChanged 38 = .ok (.if_icmp .eq 7, 3) := by decide +kernel
theorem dX4_isChanged_41 : decode cX4_isChanged 41 = .ok (.iconst 1, 1) := by decide +kernel
theorem dX4_isChanged_42 : decode cX4_isChanged 42 = .ok (.goto 4, 3) := by decide +kernel
theorem dX4_isChanged_45 : decode cX4_isChanged 45 = .ok (.iconst 0, 1) := by decide +kernel
theorem dX4_isChanged_46 : decode cX4_isChanged 46 = .ok (.ireturn, 1) := by decide +kernel
set_option maxRecDepth 20000 in
theorem ggX4_corrections_X3_size : GoodIn wsX4_corrections wsX3_size := goodIn_r _ [6, 7, 76, 77, 78] (by decide +kernel) (by decide +kernel)
set_option maxRecDepth 20000 in
theorem gX4_corrections_X3_size : GoodIn wsX4_corrections (wsV RX4 63 RX3 yX3_size wsX3_size) := goodIn_app (goodIn_of _ (by decide +kernel)) ggX4_corrections_X3_size
set_option maxRecDepth 20000 in
theorem ggX4_corrections_X4_needsCorrection : GoodIn wsX4_corrections wsX4_needsCorrection := goodIn_r _ [12, 13, 1, 14, 15, 16, 17, 18, 19, 20, 21, 22, 23, 24, 25, 26, 27, 28, 29, 30, 31, 32, 33, 34, 35, 36, 37, 38, 39, 40, 11, 41, 42, 43, 44, 45, 46, 47, 48, 49, 50, 51, 52, 53, 54, 5, 55, 56, 57, 58, 59, 60, 7, 61, 62, 63, 64, 65, 66, 67, 68, 69, 70, 71, 72, 73, 74, 75, 79, 80, 81, 82, 76, 77, 78] (by decide +kernel) (by decide +kernel)
set_option maxRecDepth 20000 in
theorem gX4_corrections_X4_needsCorrection : GoodIn wsX4_corrections (wsV RX4 118 RX4 yX4_needsCorrection wsX4_needsCorrection) := goodIn_app (goodIn_of _ (by decide +kernel)) ggX4_corrections_X4_needsCorrection
theorem dX4_corrections_0 : decode cX4_corrections 0 = .ok (.iconst 0, 1) := by decide +kernel
theorem dX4_corrections_1 : decode cX4_corrections 1 = .ok (.istore_n 1, 1) := by decide +kernel
theorem dX4_corrections_2 : decode cX4_corrections 2 = .ok (.iconst 0, 1) := by decide +kernel
theorem dX4_corrections_3 : decode cX4_corrections 3 = .ok (.istore_n 2, 1) := by decide +kernel
theorem dX4_corrections_4 : decode cX4_corrections 4 = .ok (.iload_n 2, 1) := by decide +kernel
theorem dX4_corrections_5 : decode cX4_corrections 5 = .ok (.aload_n 0, 1) := by decide +kernel
theorem dX4_corrections_6 : decode cX4_corrections 6 = .ok (.getfield 16, 3) := by decide +kernel
theorem dX4_corrections_9 : decode cX4_corrections 9 = .ok (.invokevirtual 63, 3) := by decide +kernel
theorem dX4_corrections_12 : decode cX4_corrections 12 = .ok (.if_icmp .ge 20, 3) := by decide +kernel
theorem dX4_corrections_15 : decode cX4_corrections 15 = .ok (.aload_n 0, 1) := by decide +kernel
theorem dX4_corrections_16 : decode cX4_corrections 16 = .ok (.iload_n 2, 1) := by decide +kernel
theorem dX4_corrections_17 : decode cX4_corrections 17 = .ok (.invokevirtual 118, 3) := by decide +kernel
theorem dX4_corrections_20 : decode cX4_corrections 20 = .ok (.ifCond .eq 6, 3) := by decide +kernel
theorem dX4_corrections_23 : decode cX4_corrections 23 = .ok (.iinc 1 1, 3) := by decide +kernel
theorem dX4_corrections_26 : decode cX4_corrections 26 = .ok (.iinc 2 1, 3) := by decide +kernel
theorem dX4_corrections_29 : decode cX4_corrections 29 = .ok (.goto (-25), 3) := by decide +kernel
theorem dX4_corrections_32 : decode cX4_corrections 32 = .ok (.iload_n 1, 1) := by decide +kernel
theorem dX4_corrections_33 : decode cX4_corrections 33 = .ok (.ireturn, 1) := by decide +kernel
set_option maxRecDepth 20000 in
theorem ggX4_changedWords_X3_size : GoodIn wsX4_changedWords wsX3_size := goodIn_r _ [6, 7, 63, 64, 65] (by decide +kernel) (by decide +kernel)
set_option maxRecDepth 20000 in
theorem gX4_changedWords_X3_size : GoodIn wsX4_changedWords (wsV RX4 63 RX3 yX3_size wsX3_size) := goodIn_app (goodIn_of _ (by decide +kernel)) ggX4_changedWords_X3_size
set_option maxRecDepth 20000 in
theorem ggX4_changedWords_X4_isChanged : GoodIn wsX4_changedWords wsX4_isChanged := goodIn_r _ [12, 13, 14, 1, 15, 16, 17, 18, 19, 20, 21, 22, 23, 24, 25, 26, 27, 28, 29, 30, 31, 32, 33, 34, 35, 36, 37, 38, 39, 40, 41, 42, 43, 44, 45, 46, 47, 48, 49, 50, 5, 51, 52, 53, 54, 55, 56, 7, 57, 58, 59, 60, 61, 62, 66, 67, 68, 69, 63, 64, 65] (by decide +kernel) (by decide +kernel)
set_option maxRecDepth 20000 in
theorem gX4_changedWords_X4_isChanged : GoodIn wsX4_changedWords (wsV RX4 136 RX4 yX4_isChanged wsX4_isChanged) := goodIn_app (goodIn_of _ (by decide +kernel)) ggX4_changedWords_X4_isChanged
theorem dX4_changedWords_0 : decode cX4_changedWords 0 = .ok (.iconst 0, 1) := by decide +kernel
theorem dX4_changedWords_1 : decode cX4_changedWords 1 = .ok (.istore_n 1, 1) := by decide +kernel
theorem dX4_changedWords_2 : decode cX4_changedWords 2 = .ok (.iconst 0, 1) := by decide +kernel
theorem dX4_changedWords_3 : decode cX4_changedWords 3 = .ok (.istore_n 2, 1) := by decide +kernel
theorem dX4_changedWords_4 : decode cX4_changedWords 4 = .ok (.iload_n 2, 1) := by decide +kernel
theorem dX4_changedWords_5 : decode cX4_changedWords 5 = .ok (.aload_n 0, 1) := by decide +kernel
theorem dX4_changedWords_6 : decode cX4_changedWords 6 = .ok (.getfield 16, 3) := by decide +kernel
theorem dX4_changedWords_9 : decode cX4_changedWords 9 = .ok (.invokevirtual 63, 3) := by decide +kernel
theorem dX4_changedWords_12 : decode cX4_changedWords 12 = .ok (.if_icmp .ge 20, 3) := by decide +kernel
theorem dX4_changedWords_15 : decode cX4_changedWords 15 = .ok (.aload_n 0, 1) := by decide +kernel
theorem dX4_changedWords_16 : decode cX4_changedWords 16 = .ok (.iload_n 2, 1) := by decide +kernel
theorem dX4_changedWords_17 : decode cX4_changedWords 17 = .ok (.invokevirtual 136, 3) := by decide +kernel
theorem dX4_changedWords_20 : decode cX4_changedWords 20 = .ok (.ifCond .eq 6, 3) := by decide +kernel
theorem dX4_changedWords_23 : decode cX4_changedWords 23 = .ok (.iinc 1 1, 3) := by decide +kernel
theorem dX4_changedWords_26 : decode cX4_changedWords 26 = .ok (.iinc 2 1, 3) := by decide +kernel
theorem dX4_changedWords_29 : decode cX4_changedWords 29 = .ok (.goto (-25), 3) := by decide +kernel
theorem dX4_changedWords_32 : decode cX4_changedWords 32 = .ok (.iload_n 1, 1) := by decide +kernel
theorem dX4_changedWords_33 : decode cX4_changedWords 33 = .ok (.ireturn, 1) := by decide +kernel
set_option maxRecDepth 20000 in
theorem ggX4_literals_X3_size : GoodIn wsX4_literals wsX3_size := goodIn_r _ [7, 8, 30, 31, 32] (by decide +kernel) (by decide +kernel)
set_option maxRecDepth 20000 in
theorem gX4_literals_X3_size : GoodIn wsX4_literals (wsV RX4 63 RX3 yX3_size wsX3_size) := goodIn_app (goodIn_of _ (by decide +kernel)) ggX4_literals_X3_size
set_option maxRecDepth 20000 in
theorem ggX4_literals_X1_size : GoodIn wsX4_literals wsX1_size := goodIn_r _ [13, 14, 33, 34, 35, 36] (by decide +kernel) (by decide +kernel)
set_option maxRecDepth 20000 in
theorem gX4_literals_X1_size : GoodIn wsX4_literals (wsV RX4 86 RX1 yX1_size wsX1_size) := goodIn_app (goodIn_of _ (by decide +kernel)) ggX4_literals_X1_size
set_option maxRecDepth 20000 in
theorem ggX4_literals_X1_length : GoodIn wsX4_literals wsX1_length := goodIn_r _ [18, 19, 20, 21, 22, 12, 23, 14, 33, 34, 35, 36] (by decide +kernel) (by decide +kernel)
set_option maxRecDepth 20000 in
theorem gX4_literals_X1_length : GoodIn wsX4_literals (wsV RX4 96 RX1 yX1_length wsX1_length) := goodIn_app (goodIn_of _ (by decide +kernel)) ggX4_literals_X1_length
theorem dX4_literals_0 : decode cX4_literals 0 = .ok (.aload_n 0, 1) := by decide +kernel
theorem dX4_literals_1 : decode cX4_literals 1 = .ok (.getfield 16, 3) := by decide +kernel
theorem dX4_literals_4 : decode cX4_literals 4 = .ok (.invokevirtual 63, 3) := by decide +kernel
theorem dX4_literals_7 : decode cX4_literals 7 = .ok (.istore_n 1, 1) := by decide +kernel
theorem dX4_literals_8 : decode cX4_literals 8 = .ok (.iconst 0, 1) := by decide +kernel
theorem dX4_literals_9 : decode cX4_literals 9 = .ok (.istore_n 2, 1) := by decide +kernel
theorem dX4_literals_10 : decode cX4_literals 10 = .ok (.iload_n 2, 1) := by decide +kernel
theorem dX4_literals_11 : decode cX4_literals 11 = .ok (.aload_n 0, 1) := by decide +kernel
theorem dX4_literals_12 : decode cX4_literals 12 = .ok (.getfield 22, 3) := by decide +kernel
theorem dX4_literals_15 : decode cX4_literals 15 = .ok (.invokevirtual 86, 3) := by decide +kernel
theorem dX4_literals_18 : decode cX4_literals 18 = .ok (.if_icmp .ge 20, 3) := by decide +kernel
theorem dX4_literals_21 : decode cX4_literals 21 = .ok (.iload_n 1, 1) := by decide +kernel
theorem dX4_literals_22 : decode cX4_literals 22 = .ok (.aload_n 0, 1) := by decide +kernel
theorem dX4_literals_23 : decode cX4_literals 23 = .ok (.getfield 22, 3) := by decide +kernel
theorem dX4_literals_26 : decode cX4_literals 26 = .ok (.iload_n 2, 1) := by decide +kernel
theorem dX4_literals_27 : decode cX4_literals 27 = .ok (.invokevirtual 96, 3) := by decide +kernel
theorem dX4_literals_30 : decode cX4_literals 30 = .ok (.isub, 1) := by decide +kernel
theorem dX4_literals_31 : decode cX4_literals 31 = .ok (.istore_n 1, 1) := by decide +kernel
theorem dX4_literals_32 : decode cX4_literals 32 = .ok (.iinc 2 1, 3) := by decide +kernel
theorem dX4_literals_35 : decode cX4_literals 35 = .ok (.goto (-25), 3) := by decide +kernel
theorem dX4_literals_38 : decode cX4_literals 38 = .ok (.iload_n 1, 1) := by decide +kernel
theorem dX4_literals_39 : decode cX4_literals 39 = .ok (.ireturn, 1) := by decide +kernel
set_option maxRecDepth 20000 in
theorem ggX4_blocksAndLiteralsCost_X1_size : GoodIn wsX4_blocksAndLiteralsCost wsX1_size := goodIn_r _ [6, 7, 35, 36, 37, 38] (by decide +kernel) (by decide +kernel)
set_option maxRecDepth 20000 in
theorem gX4_blocksAndLiteralsCost_X1_size : GoodIn wsX4_blocksAndLiteralsCost (wsV RX4 86 RX1 yX1_size wsX1_size) := goodIn_app (goodIn_of _ (by decide +kernel)) ggX4_blocksAndLiteralsCost_X1_size
set_option maxRecDepth 20000 in
theorem ggX4_blocksAndLiteralsCost_X4_literals : GoodIn wsX4_blocksAndLiteralsCost wsX4_literals := goodIn_r _ [12, 13, 1, 14, 15, 16, 17, 18, 19, 2, 3, 4, 5, 6, 7, 20, 21, 22, 23, 24, 25, 26, 27, 28, 29, 30, 31, 32, 33, 34, 39, 40, 41, 35, 36, 37, 38] (by decide +kernel) (by decide +kernel)
set_option maxRecDepth 20000 in
theorem gX4_blocksAndLiteralsCost_X4_literals : GoodIn wsX4_blocksAndLiteralsCost (wsV RX4 121 RX4 yX4_literals wsX4_literals) := goodIn_app (goodIn_of _ (by decide +kernel)) ggX4_blocksAndLiteralsCost_X4_literals
theorem dX4_blocksAndLiteralsCost_0 : decode cX4_blocksAndLiteralsCost 0 = .ok (.aload_n 0, 1) := by decide +kernel
theorem dX4_blocksAndLiteralsCost_1 : decode cX4_blocksAndLiteralsCost 1 = .ok (.getfield 22, 3) := by decide +kernel
theorem dX4_blocksAndLiteralsCost_4 : decode cX4_blocksAndLiteralsCost 4 = .ok (.invokevirtual 86, 3) := by decide +kernel
theorem dX4_blocksAndLiteralsCost_7 : decode cX4_blocksAndLiteralsCost 7 = .ok (.iconst 3, 1) := by decide +kernel
theorem dX4_blocksAndLiteralsCost_8 : decode cX4_blocksAndLiteralsCost 8 = .ok (.imul, 1) := by decide +kernel
theorem dX4_blocksAndLiteralsCost_9 : decode cX4_blocksAndLiteralsCost 9 = .ok (.aload_n 0, 1) := by decide +kernel
theorem dX4_blocksAndLiteralsCost_10 : decode cX4_blocksAndLiteralsCost 10 = .ok (.invokevirtual 121, 3) := by decide +kernel
theorem dX4_blocksAndLiteralsCost_13 : decode cX4_blocksAndLiteralsCost 13 = .ok (.iconst 1, 1) := by decide +kernel
theorem dX4_blocksAndLiteralsCost_14 : decode cX4_blocksAndLiteralsCost 14 = .ok (.imul, 1) := by decide +kernel
theorem dX4_blocksAndLiteralsCost_15 : decode cX4_blocksAndLiteralsCost 15 = .ok (.iadd, 1) := by decide +kernel
theorem dX4_blocksAndLiteralsCost_16 : decode cX4_blocksAndLiteralsCost 16 = .ok (.ireturn, 1) := by decide +kernel
set_option maxRecDepth 20000 in
theorem ggX4_copyCount_X2_steps : GoodIn wsX4_copyCount wsX2_steps := goodIn_r _ [7, 8, 15, 16, 17, 18] (by decide +kernel) (by decide +kernel)
set_option maxRecDepth 20000 in
theorem gX4_copyCount_X2_steps : GoodIn wsX4_copyCount (wsV RX4 139 RX2 yX2_steps wsX2_steps) := goodIn_app (goodIn_of _ (by decide +kernel)) ggX4_copyCount_X2_steps
theorem dX4_copyCount_0 : decode cX4_copyCount 0 = .ok (.aload_n 0, 1) := by decide +kernel
theorem dX4_copyCount_1 : decode cX4_copyCount 1 = .ok (.getfield 40, 3) := by decide +kernel
theorem dX4_copyCount_4 : decode cX4_copyCount 4 = .ok (.ifCond .eq 13, 3) := by decide +kernel
theorem dX4_copyCount_7 : decode cX4_copyCount 7 = .ok (.aload_n 0, 1) := by decide +kernel
theorem dX4_copyCount_8 : decode cX4_copyCount 8 = .ok (.getfield 36, 3) := by decide +kernel
theorem dX4_copyCount_11 : decode cX4_copyCount 11 = .ok (.invokevirtual 139, 3) := by decide +kernel
theorem dX4_copyCount_14 : decode cX4_copyCount 14 = .ok (.goto 6, 3) := by decide +kernel
theorem dX4_copyCount_17 : decode cX4_copyCount 17 = .ok (.sipush (-10004), 3) := by decide +kernel
theorem dX4_copyCount_20 : decode cX4_copyCount 20 = .ok (.ireturn, 1) := by decide +kernel
set_option maxRecDepth 20000 in
theorem ggX4_copyStep_X2_hasStep : GoodIn wsX4_copyStep wsX2_hasStep := goodIn_r _ [7, 8, 21, 22, 23, 24] (by decide +kernel) (by decide +kernel)
set_option maxRecDepth 20000 in
theorem gX4_copyStep_X2_hasStep : GoodIn wsX4_copyStep (wsV RX4 142 RX2 yX2_hasStep wsX2_hasStep) := goodIn_app (goodIn_of _ (by decide +kernel)) ggX4_copyStep_X2_hasStep
set_option maxRecDepth 20000 in
theorem ggX4_copyStep_X2_blockOfStep : GoodIn wsX4_copyStep wsX2_blockOfStep := goodIn_r _ [12, 13, 14, 4, 5, 6, 7, 8, 21, 22, 23, 24] (by decide +kernel) (by decide +kernel)
set_option maxRecDepth 20000 in
theorem gX4_copyStep_X2_blockOfStep : GoodIn wsX4_copyStep (wsV RX4 145 RX2 yX2_blockOfStep wsX2_blockOfStep) := goodIn_app (goodIn_of _ (by decide +kernel)) ggX4_copyStep_X2_blockOfStep
theorem dX4_copyStep_0 : decode cX4_copyStep 0 = .ok (.aload_n 0, 1) := by decide +kernel
theorem dX4_copyStep_1 : decode cX4_copyStep 1 = .ok (.getfield 40, 3) := by decide +kernel
theorem dX4_copyStep_4 : decode cX4_copyStep 4 = .ok (.ifCond .ne 7, 3) := by decide +kernel
theorem dX4_copyStep_7 : decode cX4_copyStep 7 = .ok (.sipush (-10004), 3) := by decide +kernel
theorem dX4_copyStep_10 : decode cX4_copyStep 10 = .ok (.ireturn, 1) := by decide +kernel
theorem dX4_copyStep_11 : decode cX4_copyStep 11 = .ok (.aload_n 0, 1) := by decide +kernel
theorem dX4_copyStep_12 : decode cX4_copyStep 12 = .ok (.getfield 36, 3) := by decide +kernel
theorem dX4_copyStep_15 : decode cX4_copyStep 15 = .ok (.iload_n 1, 1) := by decide +kernel
theorem dX4_copyStep_16 : decode cX4_copyStep 16 = .ok (.invokevirtual 142, 3) := by decide +kernel
theorem dX4_copyStep_19 : decode cX4_copyStep 19 = .ok (.ifCond .eq 14, 3) := by decide +kernel
theorem dX4_copyStep_22 : decode cX4_copyStep 22 = .ok (.aload_n 0, 1) := by decide +kernel
theorem dX4_copyStep_23 : decode cX4_copyStep 23 = .ok (.getfield 36, 3) := by decide +kernel
theorem dX4_copyStep_26 : decode cX4_copyStep 26 = .ok (.iload_n 1, 1) := by decide +kernel
theorem dX4_copyStep_27 : decode cX4_copyStep 27 = .ok (.invokevirtual 145, 3) := by decide +kernel
theorem dX4_copyStep_30 : decode cX4_copyStep 30 = .ok (.goto 6, 3) := by decide +kernel
theorem dX4_copyStep_33 : decode cX4_copyStep 33 = .ok (.sipush (-10003), 3) := by decide +kernel
theorem dX4_copyStep_36 : decode cX4_copyStep 36 = .ok (.ireturn, 1) := by decide +kernel
set_option maxRecDepth 20000 in
theorem ggX4_isDropped_X4_blockError : GoodIn wsX4_isDropped wsX4_blockError := goodIn_r _ [6, 7, 8, 9, 10, 11, 12, 13, 14, 21, 22, 23, 24, 25, 26, 27, 28, 29, 30] (by decide +kernel) (by decide +kernel)
set_option maxRecDepth 20000 in
theorem gX4_isDropped_X4_blockError : GoodIn wsX4_isDropped (wsV RX4 87 RX4 yX4_blockError wsX4_blockError) := goodIn_app (goodIn_of _ (by decide +kernel)) ggX4_isDropped_X4_blockError
set_option maxRecDepth 20000 in
theorem ggX4_isDropped_X2_drops : GoodIn wsX4_isDropped wsX2_drops := goodIn_r _ [19, 20, 31, 32, 33, 34] (by decide +kernel) (by decide +kernel)
set_option maxRecDepth 20000 in
theorem gX4_isDropped_X2_drops : GoodIn wsX4_isDropped (wsV RX4 148 RX2 yX2_drops wsX2_drops) := goodIn_app (goodIn_of _ (by decide +kernel)) ggX4_isDropped_X2_drops
theorem dX4_isDropped_0 : decode cX4_isDropped 0 = .ok (.aload_n 0, 1) := by decide +kernel
theorem dX4_isDropped_1 : decode cX4_isDropped 1 = .ok (.iload_n 1, 1) := by decide +kernel
theorem dX4_isDropped_2 : decode cX4_isDropped 2 = .ok (.invokevirtual 87, 3) := by decide +kernel
theorem dX4_isDropped_5 : decode cX4_isDropped 5 = .ok (.istore_n 2, 1) := by decide +kernel
theorem dX4_isDropped_6 : decode cX4_isDropped 6 = .ok (.iload_n 2, 1) := by decide +kernel
theorem dX4_isDropped_7 : decode cX4_isDropped 7 = .ok (.ifCond .eq 5, 3) := by decide +kernel
theorem dX4_isDropped_10 : decode cX4_isDropped 10 = .ok (.iload_n 2, 1) := by decide +kernel
theorem dX4_isDropped_11 : decode cX4_isDropped 11 = .ok (.ireturn, 1) := by decide +kernel
theorem dX4_isDropped_12 : decode cX4_isDropped 12 = .ok (.aload_n 0, 1) := by decide +kernel
theorem dX4_isDropped_13 : decode cX4_isDropped 13 = .ok (.getfield 36, 3) := by decide +kernel
theorem dX4_isDropped_16 : decode cX4_isDropped 16 = .ok (.iload_n 1, 1) := by decide +kernel
theorem dX4_isDropped_17 : decode cX4_isDropped 17 = .ok (.invokevirtual 148, 3) := by decide +kernel
theorem dX4_isDropped_20 : decode cX4_isDropped 20 = .ok (.ifCond .eq 7, 3) := by decide +kernel
theorem dX4_isDropped_23 : decode cX4_isDropped 23 = .ok (.iconst 1, 1) := by decide +kernel
theorem dX4_isDropped_24 : decode cX4_isDropped 24 = .ok (.goto 4, 3) := by decide +kernel
theorem dX4_isDropped_27 : decode cX4_isDropped 27 = .ok (.iconst 0, 1) := by decide +kernel
theorem dX4_isDropped_28 : decode cX4_isDropped 28 = .ok (.ireturn, 1) := by decide +kernel
set_option maxRecDepth 20000 in
theorem ggX4_inPlaceSize_X2_steps : GoodIn wsX4_inPlaceSize wsX2_steps := goodIn_r _ [8, 9, 97, 98, 99, 100] (by decide +kernel) (by decide +kernel)
set_option maxRecDepth 20000 in
theorem gX4_inPlaceSize_X2_steps : GoodIn wsX4_inPlaceSize (wsV RX4 139 RX2 yX2_steps wsX2_steps) := goodIn_app (goodIn_of _ (by decide +kernel)) ggX4_inPlaceSize_X2_steps
set_option maxRecDepth 20000 in
theorem ggX4_inPlaceSize_X3_size : GoodIn wsX4_inPlaceSize wsX3_size := goodIn_r _ [14, 15, 101, 102, 103] (by decide +kernel) (by decide +kernel)
set_option maxRecDepth 20000 in
theorem gX4_inPlaceSize_X3_size : GoodIn wsX4_inPlaceSize (wsV RX4 63 RX3 yX3_size wsX3_size) := goodIn_app (goodIn_of _ (by decide +kernel)) ggX4_inPlaceSize_X3_size
set_option maxRecDepth 20000 in
theorem ggX4_inPlaceSize_X4_inPlaceWordCost : GoodIn wsX4_inPlaceSize wsX4_inPlaceWordCost := goodIn_r _ [20, 21, 22, 23, 19, 24, 25, 2, 26, 27, 28, 29, 30, 31, 32, 33, 34, 35, 36, 37, 38, 39, 40, 41, 42, 43, 44, 45, 46, 47, 48, 49, 50, 51, 52, 7, 53, 54, 55, 56, 57, 58, 3, 59, 60, 61, 62, 63, 64, 65, 66, 67, 68, 69, 70, 71, 72, 73, 74, 75, 13, 76, 77, 78, 79, 80, 81, 15, 82, 83, 84, 85, 86, 87, 88, 89, 90, 91, 92, 93, 94, 95, 96, 104, 105, 106, 107, 97, 98, 99, 100, 101, 102, 103] (by decide +kernel) (by decide +kernel)
set_option maxRecDepth 20000 in
theorem gX4_inPlaceSize_X4_inPlaceWordCost : GoodIn wsX4_inPlaceSize (wsV RX4 151 RX4 yX4_inPlaceWordCost wsX4_inPlaceWordCost) := goodIn_app (goodIn_of _ (by decide +kernel)) ggX4_inPlaceSize_X4_inPlaceWordCost
theorem dX4_inPlaceSize_0 : decode cX4_inPlaceSize 0 = .ok (.aload_n 0, 1) := by decide +kernel
theorem dX4_inPlaceSize_1 : decode cX4_inPlaceSize 1 = .ok (.getfield 40, 3) := by decide +kernel
theorem dX4_inPlaceSize_4 : decode cX4_inPlaceSize 4 = .ok (.ifCond .ne 7, 3) := by decide +kernel
theorem dX4_inPlaceSize_7 : decode cX4_inPlaceSize 7 = .ok (.sipush (-10004), 3) := by decide +kernel
theorem dX4_inPlaceSize_10 : decode cX4_inPlaceSize 10 = .ok (.ireturn, 1) := by decide +kernel
theorem dX4_inPlaceSize_11 : decode cX4_inPlaceSize 11 = .ok (.aload_n 0, 1) := by decide +kernel
theorem dX4_inPlaceSize_12 : decode cX4_inPlaceSize 12 = .ok (.getfield 36, 3) := by decide +kernel
theorem dX4_inPlaceSize_15 : decode cX4_inPlaceSize 15 = .ok (.invokevirtual 139, 3) := by decide +kernel
theorem dX4_inPlaceSize_18 : decode cX4_inPlaceSize 18 = .ok (.iconst 3, 1) := by decide +kernel
theorem dX4_inPlaceSize_19 : decode cX4_inPlaceSize 19 = .ok (.imul, 1) := by decide +kernel
theorem dX4_inPlaceSize_20 : decode cX4_inPlaceSize 20 = .ok (.istore_n 1, 1) := by decide +kernel
theorem dX4_inPlaceSize_21 : decode cX4_inPlaceSize 21 = .ok (.iconst 0, 1) := by decide +kernel
theorem dX4_inPlaceSize_22 : decode cX4_inPlaceSize 22 = .ok (.istore_n 2, 1) := by decide +kernel
theorem dX4_inPlaceSize_23 : decode cX4_inPlaceSize 23 = .ok (.iload_n 2, 1) := by decide +kernel
theorem dX4_inPlaceSize_24 : decode cX4_inPlaceSize 24 = .ok (.aload_n 0, 1) := by decide +kernel
theorem dX4_inPlaceSize_25 : decode cX4_inPlaceSize 25 = .ok (.getfield 16, 3) := by decide +kernel
theorem dX4_inPlaceSize_28 : decode cX4_inPlaceSize 28 = .ok (.invokevirtual 63, 3) := by decide +kernel
theorem dX4_inPlaceSize_31 : decode cX4_inPlaceSize 31 = .ok (.if_icmp .ge 17, 3) := by decide +kernel
theorem dX4_inPlaceSize_34 : decode cX4_inPlaceSize 34 = .ok (.iload_n 1, 1) := by decide +kernel
theorem dX4_inPlaceSize_35 : decode cX4_inPlaceSize 35 = .ok (.aload_n 0, 1) := by decide +kernel
theorem dX4_inPlaceSize_36 : decode cX4_inPlaceSize 36 = .ok (.iload_n 2, 1) := by decide +kernel
theorem dX4_inPlaceSize_37 : decode cX4_inPlaceSize 37 = .ok (.invokevirtual 151, 3) := by decide +kernel
theorem dX4_inPlaceSize_40 : decode cX4_inPlaceSize 40 = .ok (.iadd, 1) := by decide +kernel
theorem dX4_inPlaceSize_41 : decode cX4_inPlaceSize 41 = .ok (.istore_n 1, 1) := by decide +kernel
theorem dX4_inPlaceSize_42 : decode cX4_inPlaceSize 42 = .ok (.iinc 2 1, 3) := by decide +kernel
theorem dX4_inPlaceSize_45 : decode cX4_inPlaceSize 45 = .ok (.goto (-22), 3) := by decide +kernel
theorem dX4_inPlaceSize_48 : decode cX4_inPlaceSize 48 = .ok (.iload_n 1, 1) := by decide +kernel
theorem dX4_inPlaceSize_49 : decode cX4_inPlaceSize 49 = .ok (.ireturn, 1) := by decide +kernel
set_option maxRecDepth 20000 in
theorem ggX4_memoryAfter_X2_steps : GoodIn wsX4_memoryAfter wsX2_steps := goodIn_r _ [13, 14, 84, 85, 86, 87] (by decide +kernel) (by decide +kernel)
set_option maxRecDepth 20000 in
theorem gX4_memoryAfter_X2_steps : GoodIn wsX4_memoryAfter (wsV RX4 139 RX2 yX2_steps wsX2_steps) := goodIn_app (goodIn_of _ (by decide +kernel)) ggX4_memoryAfter_X2_steps
set_option maxRecDepth 20000 in
theorem ggX4_memoryAfter_X3_size : GoodIn wsX4_memoryAfter wsX3_size := goodIn_r _ [19, 20, 88, 89, 90] (by decide +kernel) (by decide +kernel)
set_option maxRecDepth 20000 in
theorem gX4_memoryAfter_X3_size : GoodIn wsX4_memoryAfter (wsV RX4 63 RX3 yX3_size wsX3_size) := goodIn_app (goodIn_of _ (by decide +kernel)) ggX4_memoryAfter_X3_size
set_option maxRecDepth 20000 in
theorem ggX4_memoryAfter_X4_memoryValue : GoodIn wsX4_memoryAfter wsX4_memoryValue := goodIn_r _ [25, 3, 2, 26, 27, 28, 29, 12, 30, 31, 32, 33, 34, 35, 36, 37, 38, 39, 14, 40, 41, 42, 43, 44, 45, 46, 47, 48, 49, 50, 51, 52, 53, 54, 55, 56, 57, 58, 59, 60, 61, 62, 63, 64, 65, 66, 67, 68, 69, 70, 71, 18, 72, 73, 74, 75, 76, 77, 20, 78, 79, 80, 81, 82, 83, 84, 85, 86, 87, 91, 92, 93, 94, 88, 89, 90] (by decide +kernel) (by decide +kernel)
set_option maxRecDepth 20000 in
theorem gX4_memoryAfter_X4_memoryValue : GoodIn wsX4_memoryAfter (wsV RX4 159 RX4 yX4_memoryValue wsX4_memoryValue) := goodIn_app (goodIn_of _ (by decide +kernel)) ggX4_memoryAfter_X4_memoryValue
theorem dX4_memoryAfter_0 : decode cX4_memoryAfter 0 = .ok (.aload_n 0, 1) := by decide +kernel
theorem dX4_memoryAfter_1 : decode cX4_memoryAfter 1 = .ok (.getfield 40, 3) := by decide +kernel
theorem dX4_memoryAfter_4 : decode cX4_memoryAfter 4 = .ok (.ifCond .ne 7, 3) := by decide +kernel
theorem dX4_memoryAfter_7 : decode cX4_memoryAfter 7 = .ok (.sipush (-10004), 3) := by decide +kernel
theorem dX4_memoryAfter_10 : decode cX4_memoryAfter 10 = .ok (.ireturn, 1) := by decide +kernel
theorem dX4_memoryAfter_11 : decode cX4_memoryAfter 11 = .ok (.iload_n 1, 1) := by decide +kernel
theorem dX4_memoryAfter_12 : decode cX4_memoryAfter 12 = .ok (.ifCond .lt 14, 3) := by decide +kernel
theorem dX4_memoryAfter_15 : decode cX4_memoryAfter 15 = .ok (.iload_n 1, 1) := by decide +kernel
theorem dX4_memoryAfter_16 : decode cX4_memoryAfter 16 = .ok (.aload_n 0, 1) := by decide +kernel
theorem dX4_memoryAfter_17 : decode cX4_memoryAfter 17 = .ok (.getfield 36, 3) := by decide +kernel
theorem dX4_memoryAfter_20 : decode cX4_memoryAfter 20 = .ok (.invokevirtual 139, 3) := by decide +kernel
theorem dX4_memoryAfter_23 : decode cX4_memoryAfter 23 = .ok (.if_icmp .le 7, 3) := by decide +kernel
theorem dX4_memoryAfter_26 : decode cX4_memoryAfter 26 = .ok (.sipush (-10001), 3) := by decide +kernel
theorem dX4_memoryAfter_29 : decode cX4_memoryAfter 29 = .ok (.ireturn, 1) := by decide +kernel
theorem dX4_memoryAfter_30 : decode cX4_memoryAfter 30 = .ok (.aload_n 0, 1) := by decide +kernel
theorem dX4_memoryAfter_31 : decode cX4_memoryAfter 31 = .ok (.getfield 10, 3) := by decide +kernel
theorem dX4_memoryAfter_34 : decode cX4_memoryAfter 34 = .ok (.invokevirtual 63, 3) := by decide +kernel
theorem dX4_memoryAfter_37 : decode cX4_memoryAfter 37 = .ok (.aload_n 0, 1) := by decide +kernel
theorem dX4_memoryAfter_38 : decode cX4_memoryAfter 38 = .ok (.getfield 16, 3) := by decide +kernel
theorem dX4_memoryAfter_41 : decode cX4_memoryAfter 41 = .ok (.invokevirtual 63, 3) := by decide +kernel
theorem dX4_memoryAfter_44 : decode cX4_memoryAfter 44 = .ok (.invokestatic 154, 3) := by decide +kernel
theorem dX4_memoryAfter_47 : decode cX4_memoryAfter 47 = .ok (.istore_n 3, 1) := by decide +kernel
theorem dX4_memoryAfter_48 : decode cX4_memoryAfter 48 = .ok (.iload_n 2, 1) := by decide +kernel
theorem dX4_memoryAfter_49 : decode cX4_memoryAfter 49 = .ok (.ifCond .lt 8, 3) := by decide +kernel
theorem dX4_memoryAfter_52 : decode cX4_memoryAfter 52 = .ok (.iload_n 2, 1) := by decide +kernel
theorem dX4_memoryAfter_53 : decode cX4_memoryAfter 53 = .ok (.iload_n 3, 1) := by decide +kernel
theorem dX4_memoryAfter_54 : decode cX4_memoryAfter 54 = .ok (.if_icmp .lt 7, 3) := by decide +kernel
theorem dX4_memoryAfter_57 : decode cX4_memoryAfter 57 = .ok (.sipush (-10003), 3) := by decide +kernel
theorem dX4_memoryAfter_60 : decode cX4_memoryAfter 60 = .ok (.ireturn, 1) := by decide +kernel
theorem dX4_memoryAfter_61 : decode cX4_memoryAfter 61 = .ok (.aload_n 0, 1) := by decide +kernel
theorem dX4_memoryAfter_62 : decode cX4_memoryAfter 62 = .ok (.iload_n 1, 1) := by decide +kernel
theorem dX4_memoryAfter_63 : decode cX4_memoryAfter 63 = .ok (.iload_n 2, 1) := by decide +kernel
theorem dX4_memoryAfter_64 : decode cX4_memoryAfter 64 = .ok (.invokevirtual 159, 3) := by decide +kernel
theorem dX4_memoryAfter_67 : decode cX4_memoryAfter 67 = .ok (.ireturn, 1) := by decide +kernel
set_option maxRecDepth 20000 in
theorem ggX4_patchedValue_X4_newWordError : GoodIn wsX4_patchedValue wsX4_newWordError := goodIn_r _ [9, 10, 1, 11, 12, 13, 14, 15, 16, 107, 108, 109, 110, 111, 112, 113, 114, 115] (by decide +kernel) (by decide +kernel)
set_option maxRecDepth 20000 in
theorem gX4_patchedValue_X4_newWordError : GoodIn wsX4_patchedValue (wsV RX4 99 RX4 yX4_newWordError wsX4_newWordError) := goodIn_app (goodIn_of _ (by decide +kernel)) ggX4_patchedValue_X4_newWordError
set_option maxRecDepth 20000 in
theorem ggX4_patchedValue_X4_isCopied : GoodIn wsX4_patchedValue wsX4_isCopied := goodIn_r _ [20, 3, 2, 21, 22, 23, 24, 25, 26, 27, 28, 29, 30, 31, 32, 33, 34, 35, 36, 37, 38, 39, 40, 41, 42, 43, 44, 45, 46, 47, 48, 49, 50, 107, 108, 109, 110, 111, 112, 116, 117, 118, 119, 120, 121, 122, 123] (by decide +kernel) (by decide +kernel)
set_option maxRecDepth 20000 in
theorem gX4_patchedValue_X4_isCopied : GoodIn wsX4_patchedValue (wsV RX4 162 RX4 yX4_isCopied wsX4_isCopied) := goodIn_app (goodIn_of _ (by decide +kernel)) ggX4_patchedValue_X4_isCopied
set_option maxRecDepth 20000 in
theorem ggX4_patchedValue_X4_needsCorrection : GoodIn wsX4_patchedValue wsX4_needsCorrection := goodIn_r _ [54, 3, 1, 21, 22, 23, 24, 25, 26, 27, 28, 29, 30, 31, 32, 33, 34, 35, 36, 37, 38, 39, 40, 41, 42, 43, 44, 55, 56, 57, 8, 58, 4, 59, 60, 61, 62, 63, 64, 65, 66, 67, 68, 69, 70, 14, 71, 72, 73, 12, 13, 15, 16, 74, 75, 76, 77, 78, 79, 80, 81, 82, 107, 108, 109, 110, 111, 112, 116, 117, 118, 119, 113, 114, 115] (by decide +kernel) (by decide +kernel)
set_option maxRecDepth 20000 in
theorem gX4_patchedValue_X4_needsCorrection : GoodIn wsX4_patchedValue (wsV RX4 118 RX4 yX4_needsCorrection wsX4_needsCorrection) := goodIn_app (goodIn_of _ (by decide +kernel)) ggX4_patchedValue_X4_needsCorrection
set_option maxRecDepth 20000 in
theorem ggX4_patchedValue_X3_valueAt : GoodIn wsX4_patchedValue wsX3_valueAt := goodIn_r _ [71, 72, 73, 12, 13, 14, 15, 16, 113, 114, 115] (by decide +kernel) (by decide +kernel)
set_option maxRecDepth 20000 in
theorem gX4_patchedValue_X3_valueAt : GoodIn wsX4_patchedValue (wsV RX4 55 RX3 yX3_valueAt wsX3_valueAt) := goodIn_app (goodIn_of _ (by decide +kernel)) ggX4_patchedValue_X3_valueAt
set_option maxRecDepth 20000 in
theorem ggX4_patchedValue_X2_steps : GoodIn wsX4_patchedValue wsX2_steps := goodIn_r _ [86, 87, 120, 121, 122, 123] (by decide +kernel) (by decide +kernel)
set_option maxRecDepth 20000 in
theorem gX4_patchedValue_X2_steps : GoodIn wsX4_patchedValue (wsV RX4 139 RX2 yX2_steps wsX2_steps) := goodIn_app (goodIn_of _ (by decide +kernel)) ggX4_patchedValue_X2_steps
set_option maxRecDepth 20000 in
theorem ggX4_patchedValue_X4_memoryValue : GoodIn wsX4_patchedValue wsX4_memoryValue := goodIn_r _ [91, 4, 2, 3, 92, 93, 94, 48, 95, 96, 97, 98, 99, 100, 101, 102, 103, 104, 87, 105, 28, 29, 24, 30, 31, 32, 33, 34, 35, 36, 37, 38, 39, 26, 40, 41, 42, 43, 44, 106, 60, 61, 62, 63, 64, 65, 66, 67, 68, 69, 70, 14, 71, 72, 73, 12, 13, 15, 16, 107, 108, 109, 110, 111, 112, 120, 121, 122, 123, 116, 117, 118, 119, 113, 114, 115] (by decide +kernel) (by decide +kernel)
set_option maxRecDepth 20000 in
theorem gX4_patchedValue_X4_memoryValue : GoodIn wsX4_patchedValue (wsV RX4 159 RX4 yX4_memoryValue wsX4_memoryValue) := goodIn_app (goodIn_of _ (by decide +kernel)) ggX4_patchedValue_X4_memoryValue
set_option maxRecDepth 20000 in
theorem ggX4_patchedValue_X1_withNewIndex : GoodIn wsX4_patchedValue wsX1_withNewIndex := goodIn_r _ [25, 26, 27, 28, 29, 24, 30, 31, 32, 33, 34, 35, 36, 37, 38, 39, 40, 41, 42, 43, 44, 116, 117, 118, 119] (by decide +kernel) (by decide +kernel)
set_option maxRecDepth 20000 in
theorem gX4_patchedValue_X1_withNewIndex : GoodIn wsX4_patchedValue (wsV RX4 102 RX1 yX1_withNewIndex wsX1_withNewIndex) := goodIn_app (goodIn_of _ (by decide +kernel)) ggX4_patchedValue_X1_withNewIndex
set_option maxRecDepth 20000 in
theorem ggX4_patchedValue_X1_oldIndex : GoodIn wsX4_patchedValue wsX1_oldIndex := goodIn_r _ [62, 31, 32, 33, 24, 34, 35, 36, 37, 38, 39, 26, 63, 64, 65, 66, 67, 116, 117, 118, 119] (by decide +kernel) (by decide +kernel)
set_option maxRecDepth 20000 in
theorem gX4_patchedValue_X1_oldIndex : GoodIn wsX4_patchedValue (wsV RX4 130 RX1 yX1_oldIndex wsX1_oldIndex) := goodIn_app (goodIn_of _ (by decide +kernel)) ggX4_patchedValue_X1_oldIndex
set_option maxRecDepth 20000 in
theorem ggX4_patchedValue_X3_isAddress : GoodIn wsX4_patchedValue wsX3_isAddress := goodIn_r _ [77, 78, 73, 12, 13, 14, 15, 16, 113, 114, 115] (by decide +kernel) (by decide +kernel)
set_option maxRecDepth 20000 in
theorem gX4_patchedValue_X3_isAddress : GoodIn wsX4_patchedValue (wsV RX4 133 RX3 yX3_isAddress wsX3_isAddress) := goodIn_app (goodIn_of _ (by decide +kernel)) ggX4_patchedValue_X3_isAddress
set_option maxRecDepth 20000 in
theorem ggX4_patchedValue_X1_moved : GoodIn wsX4_patchedValue wsX1_moved := goodIn_r _ [82, 26, 63, 64, 65, 24, 66, 67, 36, 37, 38, 39, 31, 32, 33, 34, 35, 116, 117, 118, 119] (by decide +kernel) (by decide +kernel)
set_option maxRecDepth 20000 in
theorem gX4_patchedValue_X1_moved : GoodIn wsX4_patchedValue (wsV RX4 108 RX1 yX1_moved wsX1_moved) := goodIn_app (goodIn_of _ (by decide +kernel)) ggX4_patchedValue_X1_moved
theorem dX4_patchedValue_0 : decode cX4_patchedValue 0 = .ok (.aload_n 0, 1) := by decide +kernel
theorem dX4_patchedValue_1 : decode cX4_patchedValue 1 = .ok (.iload_n 1, 1) := by decide +kernel
theorem dX4_patchedValue_2 : decode cX4_patchedValue 2 = .ok (.invokevirtual 99, 3) := by decide +kernel
theorem dX4_patchedValue_5 : decode cX4_patchedValue 5 = .ok (.istore_n 2, 1) := by decide +kernel
theorem dX4_patchedValue_6 : decode cX4_patchedValue 6 = .ok (.iload_n 2, 1) := by decide +kernel
theorem dX4_patchedValue_7 : decode cX4_patchedValue 7 = .ok (.ifCond .eq 5, 3) := by decide +kernel
theorem dX4_patchedValue_10 : decode cX4_patchedValue 10 = .ok (.iload_n 2, 1) := by decide +kernel
theorem dX4_patchedValue_11 : decode cX4_patchedValue 11 = .ok (.ireturn, 1) := by decide +kernel
theorem dX4_patchedValue_12 : decode cX4_patchedValue 12 = .ok (.aload_n 0, 1) := by decide +kernel
theorem dX4_patchedValue_13 : decode cX4_patchedValue 13 = .ok (.iload_n 1, 1) := by decide +kernel
theorem dX4_patchedValue_14 : decode cX4_patchedValue 14 = .ok (.invokevirtual 162, 3) := by decide +kernel
theorem dX4_patchedValue_17 : decode cX4_patchedValue 17 = .ok (.ifCond .eq 11, 3) := by decide +kernel
theorem dX4_patchedValue_20 : decode cX4_patchedValue 20 = .ok (.aload_n 0, 1) := by decide +kernel
theorem dX4_patchedValue_21 : decode cX4_patchedValue 21 = .ok (.iload_n 1, 1) := by decide +kernel
theorem dX4_patchedValue_22 : decode cX4_patchedValue 22 = .ok (.invokevirtual 118, 3) := by decide +kernel
theorem dX4_patchedValue_25 : decode cX4_patchedValue 25 = .ok (.ifCond .eq 12, 3) := by decide +kernel
theorem dX4_patchedValue_28 : decode cX4_patchedValue 28 = .ok (.aload_n 0, 1) := by decide +kernel
theorem dX4_patchedValue_29 : decode cX4_patchedValue 29 = .ok (.getfield 16, 3) := by decide +kernel
theorem dX4_patchedValue_32 : decode cX4_patchedValue 32 = .ok (.iload_n 1, 1) := by decide +kernel
theorem dX4_patchedValue_33 : decode cX4_patchedValue 33 = .ok (.invokevirtual 55, 3) := by decide +kernel
theorem dX4_patchedValue_36 : decode cX4_patchedValue 36 = .ok (.ireturn, 1) := by decide +kernel
theorem dX4_patchedValue_37 : decode cX4_patchedValue 37 = .ok (.aload_n 0, 1) := by decide +kernel
theorem dX4_patchedValue_38 : decode cX4_patchedValue 38 = .ok (.aload_n 0, 1) := by decide +kernel
theorem dX4_patchedValue_39 : decode cX4_patchedValue 39 = .ok (.getfield 36, 3) := by decide +kernel
theorem dX4_patchedValue_42 : decode cX4_patchedValue 42 = .ok (.invokevirtual 139, 3) := by decide +kernel
theorem dX4_patchedValue_45 : decode cX4_patchedValue 45 = .ok (.iload_n 1, 1) := by decide +kernel
theorem dX4_patchedValue_46 : decode cX4_patchedValue 46 = .ok (.invokevirtual 159, 3) := by decide +kernel
theorem dX4_patchedValue_49 : decode cX4_patchedValue 49 = .ok (.istore_n 3, 1) := by decide +kernel
theorem dX4_patchedValue_50 : decode cX4_patchedValue 50 = .ok (.aload_n 0, 1) := by decide +kernel
theorem dX4_patchedValue_51 : decode cX4_patchedValue 51 = .ok (.getfield 22, 3) := by decide +kernel
theorem dX4_patchedValue_54 : decode cX4_patchedValue 54 = .ok (.aload_n 0, 1) := by decide +kernel
theorem dX4_patchedValue_55 : decode cX4_patchedValue 55 = .ok (.getfield 22, 3) := by decide +kernel
theorem dX4_patchedValue_58 : decode cX4_patchedValue 58 = .ok (.iload_n 1, 1) := by decide +kernel
theorem dX4_patchedValue_59 : decode cX4_patchedValue 59 = .ok (.invokevirtual 102, 3) := by decide +kernel
theorem dX4_patchedValue_62 : decode cX4_patchedValue 62 = .ok (.iload_n 1, 1) := by decide +kernel
theorem dX4_patchedValue_63 : decode cX4_patchedValue 63 = .ok (.invokevirtual 130, 3) := by decide +kernel
theorem dX4_patchedValue_66 : decode cX4_patchedValue 66 = .ok (.istore 4, 2) := by decide +kernel
theorem dX4_patchedValue_68 : decode cX4_patchedValue 68 = .ok (.aload_n 0, 1) := by decide +kernel
theorem dX4_patchedValue_69 : decode cX4_patchedValue 69 = .ok (.getfield 10, 3) := by decide +kernel
theorem dX4_patchedValue_72 : decode cX4_patchedValue 72 = .ok (.iload 4, 2) := by decide +kernel
theorem dX4_patchedValue_74 : decode cX4_patchedValue 74 = .ok (.invokevirtual 133, 3) := by decide +kernel
theorem dX4_patchedValue_77 : decode cX4_patchedValue 77 = .ok (.ifCond .eq 14, 3) := by decide +kernel
theorem dX4_patchedValue_80 : decode cX4_patchedValue 80 = .ok (.aload_n 0, 1) := by decide +kernel
theorem dX4_patchedValue_81 : decode cX4_patchedValue 81 = .ok (.getfield 22, 3) := by decide +kernel
theorem dX4_patchedValue_84 : decode cX4_patchedValue 84 = .ok (.iload_n 3, 1) := by decide +kernel
theorem dX4_patchedValue_85 : decode cX4_patchedValue 85 = .ok (.invokevirtual 108, 3) := by decide +kernel
theorem dX4_patchedValue_88 : decode cX4_patchedValue 88 = .ok (.goto 4, 3) := by decide +kernel
theorem dX4_patchedValue_91 : decode cX4_patchedValue 91 = .ok (.iload_n 3, 1) := by decide +kernel
theorem dX4_patchedValue_92 : decode cX4_patchedValue 92 = .ok (.ireturn, 1) := by decide +kernel
set_option maxRecDepth 20000 in
theorem ggX4_isCopied_X1_withNewIndex : GoodIn wsX4_isCopied wsX1_withNewIndex := goodIn_r _ [7, 8, 9, 10, 11, 6, 12, 13, 14, 15, 16, 17, 18, 19, 20, 21, 22, 23, 24, 25, 26, 39, 40, 41, 42] (by decide +kernel) (by decide +kernel)
set_option maxRecDepth 20000 in
theorem gX4_isCopied_X1_withNewIndex : GoodIn wsX4_isCopied (wsV RX4 102 RX1 yX1_withNewIndex wsX1_withNewIndex) := goodIn_app (goodIn_of _ (by decide +kernel)) ggX4_isCopied_X1_withNewIndex
set_option maxRecDepth 20000 in
theorem ggX4_isCopied_X2_drops : GoodIn wsX4_isCopied wsX2_drops := goodIn_r _ [31, 32, 43, 44, 45, 46] (by decide +kernel) (by decide +kernel)
set_option maxRecDepth 20000 in
theorem gX4_isCopied_X2_drops : GoodIn wsX4_isCopied (wsV RX4 148 RX2 yX2_drops wsX2_drops) := goodIn_app (goodIn_of _ (by decide +kernel)) ggX4_isCopied_X2_drops
theorem dX4_isCopied_0 : decode cX4_isCopied 0 = .ok (.aload_n 0, 1) := by decide +kernel
theorem dX4_isCopied_1 : decode cX4_isCopied 1 = .ok (.getfield 22, 3) := by decide +kernel
theorem dX4_isCopied_4 : decode cX4_isCopied 4 = .ok (.iload_n 1, 1) := by decide +kernel
theorem dX4_isCopied_5 : decode cX4_isCopied 5 = .ok (.invokevirtual 102, 3) := by decide +kernel
theorem dX4_isCopied_8 : decode cX4_isCopied 8 = .ok (.istore_n 2, 1) := by decide +kernel
theorem dX4_isCopied_9 : decode cX4_isCopied 9 = .ok (.iload_n 2, 1) := by decide +kernel
theorem dX4_isCopied_10 : decode cX4_isCopied 10 = .ok (.iconst (-1), 1) := by decide +kernel
theorem dX4_isCopied_11 : decode cX4_isCopied 11 = .ok (.if_icmp .eq 18, 3) := by decide +kernel
theorem dX4_isCopied_14 : decode cX4_isCopied 14 = .ok (.aload_n 0, 1) := by decide +kernel
theorem dX4_isCopied_15 : decode cX4_isCopied 15 = .ok (.getfield 36, 3) := by decide +kernel
theorem dX4_isCopied_18 : decode cX4_isCopied 18 = .ok (.iload_n 2, 1) := by decide +kernel
theorem dX4_isCopied_19 : decode cX4_isCopied 19 = .ok (.invokevirtual 148, 3) := by decide +kernel
theorem dX4_isCopied_22 : decode cX4_isCopied 22 = .ok (.ifCond .ne 7, 3) := by decide +kernel
theorem dX4_isCopied_25 : decode cX4_isCopied 25 = .ok (.iconst 1, 1) := by decide +kernel
theorem dX4_isCopied_26 : decode cX4_isCopied 26 = .ok (.goto 4, 3) := by decide +kernel
theorem dX4_isCopied_29 : decode cX4_isCopied 29 = .ok (.iconst 0, 1) := by decide +kernel
theorem dX4_isCopied_30 : decode cX4_isCopied 30 = .ok (.ireturn, 1) := by decide +kernel
set_option maxRecDepth 20000 in
theorem ggX4_inPlaceWordCost_X4_isCopied : GoodIn wsX4_inPlaceWordCost wsX4_isCopied := goodIn_r _ [5, 6, 7, 8, 9, 10, 11, 12, 13, 14, 15, 16, 17, 18, 19, 20, 21, 22, 23, 24, 25, 26, 27, 28, 29, 30, 31, 32, 33, 34, 35, 36, 37, 77, 78, 79, 80, 81, 82, 83, 84, 85, 86, 87, 88, 89, 90] (by decide +kernel) (by decide +kernel)
set_option maxRecDepth 20000 in
theorem gX4_inPlaceWordCost_X4_isCopied : GoodIn wsX4_inPlaceWordCost (wsV RX4 162 RX4 yX4_isCopied wsX4_isCopied) := goodIn_app (goodIn_of _ (by decide +kernel)) ggX4_inPlaceWordCost_X4_isCopied
set_option maxRecDepth 20000 in
theorem ggX4_inPlaceWordCost_X4_needsCorrection : GoodIn wsX4_inPlaceWordCost wsX4_needsCorrection := goodIn_r _ [41, 6, 42, 8, 9, 10, 11, 12, 13, 14, 15, 16, 17, 18, 19, 20, 21, 22, 23, 24, 25, 26, 27, 28, 29, 30, 31, 43, 44, 45, 4, 46, 47, 48, 49, 50, 51, 52, 53, 54, 55, 56, 57, 58, 59, 60, 61, 62, 63, 64, 65, 66, 67, 68, 69, 70, 71, 72, 73, 74, 75, 76, 77, 78, 79, 80, 81, 82, 83, 84, 85, 86, 91, 92, 93] (by decide +kernel) (by decide +kernel)
set_option maxRecDepth 20000 in
theorem gX4_inPlaceWordCost_X4_needsCorrection : GoodIn wsX4_inPlaceWordCost (wsV RX4 118 RX4 yX4_needsCorrection wsX4_needsCorrection) := goodIn_app (goodIn_of _ (by decide +kernel)) ggX4_inPlaceWordCost_X4_needsCorrection
theorem dX4_inPlaceWordCost_0 : decode cX4_inPlaceWordCost 0 = .ok (.aload_n 0, 1) := by decide +kernel
theorem dX4_inPlaceWordCost_1 : decode cX4_inPlaceWordCost 1 = .ok (.iload_n 1, 1) := by decide +kernel
theorem dX4_inPlaceWordCost_2 : decode cX4_inPlaceWordCost 2 = .ok (.invokevirtual 162, 3) := by decide +kernel
theorem dX4_inPlaceWordCost_5 : decode cX4_inPlaceWordCost 5 = .ok (.ifCond .ne 5, 3) := by decide +kernel
theorem dX4_inPlaceWordCost_8 : decode cX4_inPlaceWordCost 8 = .ok (.iconst 1, 1) := by decide +kernel
theorem dX4_inPlaceWordCost_9 : decode cX4_inPlaceWordCost 9 = .ok (.ireturn, 1) := by decide +kernel
theorem dX4_inPlaceWordCost_10 : decode cX4_inPlaceWordCost 10 = .ok (.aload_n 0, 1) := by decide +kernel
theorem dX4_inPlaceWordCost_11 : decode cX4_inPlaceWordCost 11 = .ok (.iload_n 1, 1) := by decide +kernel
theorem dX4_inPlaceWordCost_12 : decode cX4_inPlaceWordCost 12 = .ok (.invokevirtual 118, 3) := by decide +kernel
theorem dX4_inPlaceWordCost_15 : decode cX4_inPlaceWordCost 15 = .ok (.ifCond .eq 7, 3) := by decide +kernel
theorem dX4_inPlaceWordCost_18 : decode cX4_inPlaceWordCost 18 = .ok (.iconst 2, 1) := by decide +kernel
theorem dX4_inPlaceWordCost_19 : decode cX4_inPlaceWordCost 19 = .ok (.goto 4, 3) := by decide +kernel
theorem dX4_inPlaceWordCost_22 : decode cX4_inPlaceWordCost 22 = .ok (.iconst 0, 1) := by decide +kernel
theorem dX4_inPlaceWordCost_23 : decode cX4_inPlaceWordCost 23 = .ok (.ireturn, 1) := by decide +kernel
set_option maxRecDepth 20000 in
theorem ggX4_memoryValue_X2_origin : GoodIn wsX4_memoryValue wsX2_origin := goodIn_r _ [8, 9, 10, 11, 7, 12, 13, 14, 15, 16, 17, 18, 19, 20, 21, 22, 23, 24, 25, 26, 27, 28, 29, 30, 31, 32, 33, 34, 35, 36, 37, 38, 39, 40, 41, 42, 43, 44, 45, 46, 47, 65, 66, 67, 68, 69, 70, 71, 72] (by decide +kernel) (by decide +kernel)
set_option maxRecDepth 20000 in
theorem gX4_memoryValue_X2_origin : GoodIn wsX4_memoryValue (wsV RX4 165 RX2 yX2_origin wsX2_origin) := goodIn_app (goodIn_of _ (by decide +kernel)) ggX4_memoryValue_X2_origin
set_option maxRecDepth 20000 in
theorem ggX4_memoryValue_X3_valueAt : GoodIn wsX4_memoryValue wsX3_valueAt := goodIn_r _ [52, 53, 54, 55, 56, 51, 57, 58, 73, 74, 75] (by decide +kernel) (by decide +kernel)
set_option maxRecDepth 20000 in
theorem gX4_memoryValue_X3_valueAt : GoodIn wsX4_memoryValue (wsV RX4 55 RX3 yX3_valueAt wsX3_valueAt) := goodIn_app (goodIn_of _ (by decide +kernel)) ggX4_memoryValue_X3_valueAt
theorem dX4_memoryValue_0 : decode cX4_memoryValue 0 = .ok (.aload_n 0, 1) := by decide +kernel
theorem dX4_memoryValue_1 : decode cX4_memoryValue 1 = .ok (.getfield 10, 3) := by decide +kernel
theorem dX4_memoryValue_4 : decode cX4_memoryValue 4 = .ok (.aload_n 0, 1) := by decide +kernel
theorem dX4_memoryValue_5 : decode cX4_memoryValue 5 = .ok (.getfield 36, 3) := by decide +kernel
theorem dX4_memoryValue_8 : decode cX4_memoryValue 8 = .ok (.aload_n 0, 1) := by decide +kernel
theorem dX4_memoryValue_9 : decode cX4_memoryValue 9 = .ok (.getfield 22, 3) := by decide +kernel
theorem dX4_memoryValue_12 : decode cX4_memoryValue 12 = .ok (.iload_n 1, 1) := by decide +kernel
theorem dX4_memoryValue_13 : decode cX4_memoryValue 13 = .ok (.iload_n 2, 1) := by decide +kernel
theorem dX4_memoryValue_14 : decode cX4_memoryValue 14 = .ok (.invokevirtual 165, 3) := by decide +kernel
theorem dX4_memoryValue_17 : decode cX4_memoryValue 17 = .ok (.invokevirtual 55, 3) := by decide +kernel
theorem dX4_memoryValue_20 : decode cX4_memoryValue 20 = .ok (.ireturn, 1) := by decide +kernel
theorem dX5_init_0 : decode cX5_init 0 = .ok (.aload_n 0, 1) := by decide +kernel
theorem dX5_init_1 : decode cX5_init 1 = .ok (.invokespecial 1, 3) := by decide +kernel
theorem dX5_init_4 : decode cX5_init 4 = .ok (.aload_n 0, 1) := by decide +kernel
theorem dX5_init_5 : decode cX5_init 5 = .ok (.bipush 48, 2) := by decide +kernel
theorem dX5_init_7 : decode cX5_init 7 = .ok (.newarray .int, 2) := by decide +kernel
theorem dX5_init_9 : decode cX5_init 9 = .ok (.putfield 7, 3) := by decide +kernel
theorem dX5_init_12 : decode cX5_init 12 = .ok (.aload_n 0, 1) := by decide +kernel
theorem dX5_init_13 : decode cX5_init 13 = .ok (.bipush 48, 2) := by decide +kernel
theorem dX5_init_15 : decode cX5_init 15 = .ok (.newarray .boolean, 2) := by decide +kernel
theorem dX5_init_17 : decode cX5_init 17 = .ok (.putfield 13, 3) := by decide +kernel
theorem dX5_init_20 : decode cX5_init 20 = .ok (.aload_n 0, 1) := by decide +kernel
theorem dX5_init_21 : decode cX5_init 21 = .ok (.bipush 48, 2) := by decide +kernel
theorem dX5_init_23 : decode cX5_init 23 = .ok (.newarray .int, 2) := by decide +kernel
theorem dX5_init_25 : decode cX5_init 25 = .ok (.putfield 17, 3) := by decide +kernel
theorem dX5_init_28 : decode cX5_init 28 = .ok (.aload_n 0, 1) := by decide +kernel
theorem dX5_init_29 : decode cX5_init 29 = .ok (.bipush 48, 2) := by decide +kernel
theorem dX5_init_31 : decode cX5_init 31 = .ok (.newarray .boolean, 2) := by decide +kernel
theorem dX5_init_33 : decode cX5_init 33 = .ok (.putfield 20, 3) := by decide +kernel
theorem dX5_init_36 : decode cX5_init 36 = .ok (.aload_n 0, 1) := by decide +kernel
theorem dX5_init_37 : decode cX5_init 37 = .ok (.bipush 48, 2) := by decide +kernel
theorem dX5_init_39 : decode cX5_init 39 = .ok (.newarray .int, 2) := by decide +kernel
theorem dX5_init_41 : decode cX5_init 41 = .ok (.putfield 23, 3) := by decide +kernel
theorem dX5_init_44 : decode cX5_init 44 = .ok (.aload_n 0, 1) := by decide +kernel
theorem dX5_init_45 : decode cX5_init 45 = .ok (.bipush 48, 2) := by decide +kernel
theorem dX5_init_47 : decode cX5_init 47 = .ok (.newarray .int, 2) := by decide +kernel
theorem dX5_init_49 : decode cX5_init 49 = .ok (.putfield 26, 3) := by decide +kernel
theorem dX5_init_52 : decode cX5_init 52 = .ok (.aload_n 0, 1) := by decide +kernel
theorem dX5_init_53 : decode cX5_init 53 = .ok (.bipush 48, 2) := by decide +kernel
theorem dX5_init_55 : decode cX5_init 55 = .ok (.newarray .int, 2) := by decide +kernel
theorem dX5_init_57 : decode cX5_init 57 = .ok (.putfield 29, 3) := by decide +kernel
theorem dX5_init_60 : decode cX5_init 60 = .ok (.aload_n 0, 1) := by decide +kernel
theorem dX5_init_61 : decode cX5_init 61 = .ok (.bipush 48, 2) := by decide +kernel
theorem dX5_init_63 : decode cX5_init 63 = .ok (.newarray .int, 2) := by decide +kernel
theorem dX5_init_65 : decode cX5_init 65 = .ok (.putfield 32, 3) := by decide +kernel
theorem dX5_init_68 : decode cX5_init 68 = .ok (.aload_n 0, 1) := by decide +kernel
theorem dX5_init_69 : decode cX5_init 69 = .ok (.bipush 48, 2) := by decide +kernel
theorem dX5_init_71 : decode cX5_init 71 = .ok (.newarray .boolean, 2) := by decide +kernel
theorem dX5_init_73 : decode cX5_init 73 = .ok (.putfield 35, 3) := by decide +kernel
theorem dX5_init_76 : decode cX5_init 76 = .ok (.aload_n 0, 1) := by decide +kernel
theorem dX5_init_77 : decode cX5_init 77 = .ok (.sipush 2401, 3) := by decide +kernel
theorem dX5_init_80 : decode cX5_init 80 = .ok (.newarray .int, 2) := by decide +kernel
theorem dX5_init_82 : decode cX5_init 82 = .ok (.putfield 38, 3) := by decide +kernel
theorem dX5_init_85 : decode cX5_init 85 = .ok (.aload_n 0, 1) := by decide +kernel
theorem dX5_init_86 : decode cX5_init 86 = .ok (.bipush 48, 2) := by decide +kernel
theorem dX5_init_88 : decode cX5_init 88 = .ok (.newarray .int, 2) := by decide +kernel
theorem dX5_init_90 : decode cX5_init 90 = .ok (.putfield 41, 3) := by decide +kernel
theorem dX5_init_93 : decode cX5_init 93 = .ok (.aload_n 0, 1) := by decide +kernel
theorem dX5_init_94 : decode cX5_init 94 = .ok (.bipush 48, 2) := by decide +kernel
theorem dX5_init_96 : decode cX5_init 96 = .ok (.newarray .int, 2) := by decide +kernel
theorem dX5_init_98 : decode cX5_init 98 = .ok (.putfield 44, 3) := by decide +kernel
theorem dX5_init_101 : decode cX5_init 101 = .ok (.aload_n 0, 1) := by decide +kernel
theorem dX5_init_102 : decode cX5_init 102 = .ok (.bipush 48, 2) := by decide +kernel
theorem dX5_init_104 : decode cX5_init 104 = .ok (.newarray .int, 2) := by decide +kernel
theorem dX5_init_106 : decode cX5_init 106 = .ok (.putfield 47, 3) := by decide +kernel
theorem dX5_init_109 : decode cX5_init 109 = .ok (.aload_n 0, 1) := by decide +kernel
theorem dX5_init_110 : decode cX5_init 110 = .ok (.bipush 48, 2) := by decide +kernel
theorem dX5_init_112 : decode cX5_init 112 = .ok (.newarray .int, 2) := by decide +kernel
theorem dX5_init_114 : decode cX5_init 114 = .ok (.putfield 50, 3) := by decide +kernel
theorem dX5_init_117 : decode cX5_init 117 = .ok (.aload_n 0, 1) := by decide +kernel
theorem dX5_init_118 : decode cX5_init 118 = .ok (.iconst 0, 1) := by decide +kernel
theorem dX5_init_119 : decode cX5_init 119 = .ok (.putfield 53, 3) := by decide +kernel
theorem dX5_init_122 : decode cX5_init 122 = .ok (.return_, 1) := by decide +kernel
theorem dX5_within_0 : decode cX5_within 0 = .ok (.iload_n 0, 1) := by decide +kernel
theorem dX5_within_1 : decode cX5_within 1 = .ok (.iload_n 1, 1) := by decide +kernel
theorem dX5_within_2 : decode cX5_within 2 = .ok (.if_icmp .lt 12, 3) := by decide +kernel
theorem dX5_within_5 : decode cX5_within 5 = .ok (.iload_n 0, 1) := by decide +kernel
theorem dX5_within_6 : decode cX5_within 6 = .ok (.iload_n 2, 1) := by decide +kernel
theorem dX5_within_7 : decode cX5_within 7 = .ok (.if_icmp .gt 7, 3) := by decide +kernel
theorem dX5_within_10 : decode cX5_within 10 = .ok (.iconst 1, 1) := by decide +kernel
theorem dX5_within_11 : decode cX5_within 11 = .ok (.goto 4, 3) := by decide +kernel
theorem dX5_within_14 : decode cX5_within 14 = .ok (.iconst 0, 1) := by decide +kernel
theorem dX5_within_15 : decode cX5_within 15 = .ok (.ireturn, 1) := by decide +kernel
set_option maxRecDepth 20000 in
theorem ggX5_isNew_X5_within : GoodIn wsX5_isNew wsX5_within := goodIn_r _ [5] (by decide +kernel) (by decide +kernel)
set_option maxRecDepth 20000 in
theorem gX5_isNew_X5_within : GoodIn wsX5_isNew (va_wsS RX5 61 yX5_within wsX5_within) := goodIn_app (goodIn_of _ (by decide +kernel)) ggX5_isNew_X5_within
theorem dX5_isNew_0 : decode cX5_isNew 0 = .ok (.iload_n 1, 1) := by decide +kernel
theorem dX5_isNew_1 : decode cX5_isNew 1 = .ok (.iconst 0, 1) := by decide +kernel
theorem dX5_isNew_2 : decode cX5_isNew 2 = .ok (.aload_n 0, 1) := by decide +kernel
theorem dX5_isNew_3 : decode cX5_isNew 3 = .ok (.getfield 57, 3) := by decide +kernel
theorem dX5_isNew_6 : decode cX5_isNew 6 = .ok (.iconst 1, 1) := by decide +kernel
theorem dX5_isNew_7 : decode cX5_isNew 7 = .ok (.isub, 1) := by decide +kernel
theorem dX5_isNew_8 : decode cX5_isNew 8 = .ok (.invokestatic 61, 3) := by decide +kernel
theorem dX5_isNew_11 : decode cX5_isNew 11 = .ok (.ireturn, 1) := by decide +kernel
set_option maxRecDepth 20000 in
theorem ggX5_appendOld_X5_within : GoodIn wsX5_appendOld wsX5_within := goodIn_r _ [8] (by decide +kernel) (by decide +kernel)
set_option maxRecDepth 20000 in
theorem gX5_appendOld_X5_within : GoodIn wsX5_appendOld (va_wsS RX5 61 yX5_within wsX5_within) := goodIn_app (goodIn_of _ (by decide +kernel)) ggX5_appendOld_X5_within
theorem dX5_appendOld_0 : decode cX5_appendOld 0 = .ok (.iload_n 1, 1) := by decide +kernel
theorem dX5_appendOld_1 : decode cX5_appendOld 1 = .ok (.iconst 0, 1) := by decide +kernel
theorem dX5_appendOld_2 : decode cX5_appendOld 2 = .ok (.sipush 9999, 3) := by decide +kernel
theorem dX5_appendOld_5 : decode cX5_appendOld 5 = .ok (.invokestatic 61, 3) := by decide +kernel
theorem dX5_appendOld_8 : decode cX5_appendOld 8 = .ok (.ifCond .ne 7, 3) := by decide +kernel
theorem dX5_appendOld_11 : decode cX5_appendOld 11 = .ok (.sipush (-10001), 3) := by decide +kernel
theorem dX5_appendOld_14 : decode cX5_appendOld 14 = .ok (.ireturn, 1) := by decide +kernel
theorem dX5_appendOld_15 : decode cX5_appendOld 15 = .ok (.aload_n 0, 1) := by decide +kernel
theorem dX5_appendOld_16 : decode cX5_appendOld 16 = .ok (.getfield 65, 3) := by decide +kernel
theorem dX5_appendOld_19 : decode cX5_appendOld 19 = .ok (.bipush 48, 2) := by decide +kernel
theorem dX5_appendOld_21 : decode cX5_appendOld 21 = .ok (.if_icmp .ne 7, 3) := by decide +kernel
theorem dX5_appendOld_24 : decode cX5_appendOld 24 = .ok (.sipush (-10002), 3) := by decide +kernel
theorem dX5_appendOld_27 : decode cX5_appendOld 27 = .ok (.ireturn, 1) := by decide +kernel
theorem dX5_appendOld_28 : decode cX5_appendOld 28 = .ok (.aload_n 0, 1) := by decide +kernel
theorem dX5_appendOld_29 : decode cX5_appendOld 29 = .ok (.getfield 7, 3) := by decide +kernel
theorem dX5_appendOld_32 : decode cX5_appendOld 32 = .ok (.aload_n 0, 1) := by decide +kernel
theorem dX5_appendOld_33 : decode cX5_appendOld 33 = .ok (.getfield 65, 3) := by decide +kernel
theorem dX5_appendOld_36 : decode cX5_appendOld 36 = .ok (.iload_n 1, 1) := by decide +kernel
theorem dX5_appendOld_37 : decode cX5_appendOld 37 = .ok (.iastore, 1) := by decide +kernel
theorem dX5_appendOld_38 : decode cX5_appendOld 38 = .ok (.aload_n 0, 1) := by decide +kernel
theorem dX5_appendOld_39 : decode cX5_appendOld 39 = .ok (.getfield 13, 3) := by decide +kernel
theorem dX5_appendOld_42 : decode cX5_appendOld 42 = .ok (.aload_n 0, 1) := by decide +kernel
theorem dX5_appendOld_43 : decode cX5_appendOld 43 = .ok (.getfield 65, 3) := by decide +kernel
theorem dX5_appendOld_46 : decode cX5_appendOld 46 = .ok (.iload_n 2, 1) := by decide +kernel
theorem dX5_appendOld_47 : decode cX5_appendOld 47 = .ok (.bastore, 1) := by decide +kernel
theorem dX5_appendOld_48 : decode cX5_appendOld 48 = .ok (.aload_n 0, 1) := by decide +kernel
theorem dX5_appendOld_49 : decode cX5_appendOld 49 = .ok (.dup, 1) := by decide +kernel
theorem dX5_appendOld_50 : decode cX5_appendOld 50 = .ok (.getfield 65, 3) := by decide +kernel
theorem dX5_appendOld_53 : decode cX5_appendOld 53 = .ok (.iconst 1, 1) := by decide +kernel
theorem dX5_appendOld_54 : decode cX5_appendOld 54 = .ok (.iadd, 1) := by decide +kernel
theorem dX5_appendOld_55 : decode cX5_appendOld 55 = .ok (.putfield 65, 3) := by decide +kernel
theorem dX5_appendOld_58 : decode cX5_appendOld 58 = .ok (.aload_n 0, 1) := by decide +kernel
theorem dX5_appendOld_59 : decode cX5_appendOld 59 = .ok (.iconst 0, 1) := by decide +kernel
theorem dX5_appendOld_60 : decode cX5_appendOld 60 = .ok (.putfield 53, 3) := by decide +kernel
theorem dX5_appendOld_63 : decode cX5_appendOld 63 = .ok (.aload_n 0, 1) := by decide +kernel
theorem dX5_appendOld_64 : decode cX5_appendOld 64 = .ok (.getfield 65, 3) := by decide +kernel
theorem dX5_appendOld_67 : decode cX5_appendOld 67 = .ok (.iconst 1, 1) := by decide +kernel
theorem dX5_appendOld_68 : decode cX5_appendOld 68 = .ok (.isub, 1) := by decide +kernel
theorem dX5_appendOld_69 : decode cX5_appendOld 69 = .ok (.ireturn, 1) := by decide +kernel
set_option maxRecDepth 20000 in
theorem ggX5_appendNew_X5_within : GoodIn wsX5_appendNew wsX5_within := goodIn_r _ [8] (by decide +kernel) (by decide +kernel)
set_option maxRecDepth 20000 in
theorem gX5_appendNew_X5_within : GoodIn wsX5_appendNew (va_wsS RX5 61 yX5_within wsX5_within) := goodIn_app (goodIn_of _ (by decide +kernel)) ggX5_appendNew_X5_within
theorem dX5_appendNew_0 : decode cX5_appendNew 0 = .ok (.iload_n 1, 1) := by decide +kernel
theorem dX5_appendNew_1 : decode cX5_appendNew 1 = .ok (.iconst 0, 1) := by decide +kernel
theorem dX5_appendNew_2 : decode cX5_appendNew 2 = .ok (.sipush 9999, 3) := by decide +kernel
theorem dX5_appendNew_5 : decode cX5_appendNew 5 = .ok (.invokestatic 61, 3) := by decide +kernel
theorem dX5_appendNew_8 : decode cX5_appendNew 8 = .ok (.ifCond .ne 7, 3) := by decide +kernel
theorem dX5_appendNew_11 : decode cX5_appendNew 11 = .ok (.sipush (-10001), 3) := by decide +kernel
theorem dX5_appendNew_14 : decode cX5_appendNew 14 = .ok (.ireturn, 1) := by decide +kernel
theorem dX5_appendNew_15 : decode cX5_appendNew 15 = .ok (.aload_n 0, 1) := by decide +kernel
theorem dX5_appendNew_16 : decode cX5_appendNew 16 = .ok (.getfield 57, 3) := by decide +kernel
theorem dX5_appendNew_19 : decode cX5_appendNew 19 = .ok (.bipush 48, 2) := by decide +kernel
theorem dX5_appendNew_21 : decode cX5_appendNew 21 = .ok (.if_icmp .ne 7, 3) := by decide +kernel
theorem dX5_appendNew_24 : decode cX5_appendNew 24 = .ok (.sipush (-10002), 3) := by decide +kernel
theorem dX5_appendNew_27 : decode cX5_appendNew 27 = .ok (.ireturn, 1) := by decide +kernel
theorem dX5_appendNew_28 : decode cX5_appendNew 28 = .ok (.aload_n 0, 1) := by decide +kernel
theorem dX5_appendNew_29 : decode cX5_appendNew 29 = .ok (.getfield 17, 3) := by decide +kernel
theorem dX5_appendNew_32 : decode cX5_appendNew 32 = .ok (.aload_n 0, 1) := by decide +kernel
theorem dX5_appendNew_33 : decode cX5_appendNew 33 = .ok (.getfield 57, 3) := by decide +kernel
theorem dX5_appendNew_36 : decode cX5_appendNew 36 = .ok (.iload_n 1, 1) := by decide +kernel
theorem dX5_appendNew_37 : decode cX5_appendNew 37 = .ok (.iastore, 1) := by decide +kernel
theorem dX5_appendNew_38 : decode cX5_appendNew 38 = .ok (.aload_n 0, 1) := by decide +kernel
theorem dX5_appendNew_39 : decode cX5_appendNew 39 = .ok (.getfield 20, 3) := by decide +kernel
theorem dX5_appendNew_42 : decode cX5_appendNew 42 = .ok (.aload_n 0, 1) := by decide +kernel
theorem dX5_appendNew_43 : decode cX5_appendNew 43 = .ok (.getfield 57, 3) := by decide +kernel
theorem dX5_appendNew_46 : decode cX5_appendNew 46 = .ok (.iload_n 2, 1) := by decide +kernel
theorem dX5_appendNew_47 : decode cX5_appendNew 47 = .ok (.bastore, 1) := by decide +kernel
theorem dX5_appendNew_48 : decode cX5_appendNew 48 = .ok (.aload_n 0, 1) := by decide +kernel
theorem dX5_appendNew_49 : decode cX5_appendNew 49 = .ok (.dup, 1) := by decide +kernel
theorem dX5_appendNew_50 : decode cX5_appendNew 50 = .ok (.getfield 57, 3) := by decide +kernel
theorem dX5_appendNew_53 : decode cX5_appendNew 53 = .ok (.iconst 1, 1) := by decide +kernel
theorem dX5_appendNew_54 : decode cX5_appendNew 54 = .ok (.iadd, 1) := by decide +kernel
theorem dX5_appendNew_55 : decode cX5_appendNew 55 = .ok (.putfield 57, 3) := by decide +kernel
theorem dX5_appendNew_58 : decode cX5_appendNew 58 = .ok (.aload_n 0, 1) := by decide +kernel
theorem dX5_appendNew_59 : decode cX5_appendNew 59 = .ok (.iconst 0, 1) := by decide +kernel
theorem dX5_appendNew_60 : decode cX5_appendNew 60 = .ok (.putfield 53, 3) := by decide +kernel
theorem dX5_appendNew_63 : decode cX5_appendNew 63 = .ok (.aload_n 0, 1) := by decide +kernel
theorem dX5_appendNew_64 : decode cX5_appendNew 64 = .ok (.getfield 57, 3) := by decide +kernel
theorem dX5_appendNew_67 : decode cX5_appendNew 67 = .ok (.iconst 1, 1) := by decide +kernel
theorem dX5_appendNew_68 : decode cX5_appendNew 68 = .ok (.isub, 1) := by decide +kernel
theorem dX5_appendNew_69 : decode cX5_appendNew 69 = .ok (.ireturn, 1) := by decide +kernel
set_option maxRecDepth 20000 in
theorem ggX5_setNew_X5_isNew : GoodIn wsX5_setNew wsX5_isNew := goodIn_r _ [7, 8, 9, 10, 6, 11, 12, 13, 14, 15, 16, 17, 18, 19, 20, 21, 22, 23, 24, 25, 26, 27, 28, 29, 30] (by decide +kernel) (by decide +kernel)
set_option maxRecDepth 20000 in
theorem gX5_setNew_X5_isNew : GoodIn wsX5_setNew (wsV RX5 68 RX5 yX5_isNew wsX5_isNew) := goodIn_app (goodIn_of _ (by decide +kernel)) ggX5_setNew_X5_isNew
set_option maxRecDepth 20000 in
theorem ggX5_setNew_X5_within : GoodIn wsX5_setNew wsX5_within := goodIn_r _ [11] (by decide +kernel) (by decide +kernel)
set_option maxRecDepth 20000 in
theorem gX5_setNew_X5_within : GoodIn wsX5_setNew (va_wsS RX5 61 yX5_within wsX5_within) := goodIn_app (goodIn_of _ (by decide +kernel)) ggX5_setNew_X5_within
theorem dX5_setNew_0 : decode cX5_setNew 0 = .ok (.aload_n 0, 1) := by decide +kernel
theorem dX5_setNew_1 : decode cX5_setNew 1 = .ok (.iload_n 1, 1) := by decide +kernel
theorem dX5_setNew_2 : decode cX5_setNew 2 = .ok (.invokevirtual 68, 3) := by decide +kernel
theorem dX5_setNew_5 : decode cX5_setNew 5 = .ok (.ifCond .ne 7, 3) := by decide +kernel
theorem dX5_setNew_8 : decode cX5_setNew 8 = .ok (.sipush (-10003), 3) := by decide +kernel
theorem dX5_setNew_11 : decode cX5_setNew 11 = .ok (.ireturn, 1) := by decide +kernel
theorem dX5_setNew_12 : decode cX5_setNew 12 = .ok (.iload_n 2, 1) := by decide +kernel
theorem dX5_setNew_13 : decode cX5_setNew 13 = .ok (.iconst 0, 1) := by decide +kernel
theorem dX5_setNew_14 : decode cX5_setNew 14 = .ok (.sipush 9999, 3) := by decide +kernel
theorem dX5_setNew_17 : decode cX5_setNew 17 = .ok (.invokestatic 61, 3) := by decide +kernel
theorem dX5_setNew_20 : decode cX5_setNew 20 = .ok (.ifCond .ne 7, 3) := by decide +kernel
theorem dX5_setNew_23 : decode cX5_setNew 23 = .ok (.sipush (-10001), 3) := by decide +kernel
theorem dX5_setNew_26 : decode cX5_setNew 26 = .ok (.ireturn, 1) := by decide +kernel
theorem dX5_setNew_27 : decode cX5_setNew 27 = .ok (.aload_n 0, 1) := by decide +kernel
theorem dX5_setNew_28 : decode cX5_setNew 28 = .ok (.getfield 17, 3) := by decide +kernel
theorem dX5_setNew_31 : decode cX5_setNew 31 = .ok (.iload_n 1, 1) := by decide +kernel
theorem dX5_setNew_32 : decode cX5_setNew 32 = .ok (.iaload, 1) := by decide +kernel
theorem dX5_setNew_33 : decode cX5_setNew 33 = .ok (.istore_n 3, 1) := by decide +kernel
theorem dX5_setNew_34 : decode cX5_setNew 34 = .ok (.aload_n 0, 1) := by decide +kernel
theorem dX5_setNew_35 : decode cX5_setNew 35 = .ok (.getfield 17, 3) := by decide +kernel
theorem dX5_setNew_38 : decode cX5_setNew 38 = .ok (.iload_n 1, 1) := by decide +kernel
theorem dX5_setNew_39 : decode cX5_setNew 39 = .ok (.iload_n 2, 1) := by decide +kernel
theorem dX5_setNew_40 : decode cX5_setNew 40 = .ok (.iastore, 1) := by decide +kernel
theorem dX5_setNew_41 : decode cX5_setNew 41 = .ok (.aload_n 0, 1) := by decide +kernel
theorem dX5_setNew_42 : decode cX5_setNew 42 = .ok (.iconst 0, 1) := by decide +kernel
theorem dX5_setNew_43 : decode cX5_setNew 43 = .ok (.putfield 53, 3) := by decide +kernel
theorem dX5_setNew_46 : decode cX5_setNew 46 = .ok (.iload_n 3, 1) := by decide +kernel
theorem dX5_setNew_47 : decode cX5_setNew 47 = .ok (.ireturn, 1) := by decide +kernel
theorem dX5_clear_0 : decode cX5_clear 0 = .ok (.aload_n 0, 1) := by decide +kernel
theorem dX5_clear_1 : decode cX5_clear 1 = .ok (.getfield 65, 3) := by decide +kernel
theorem dX5_clear_4 : decode cX5_clear 4 = .ok (.aload_n 0, 1) := by decide +kernel
theorem dX5_clear_5 : decode cX5_clear 5 = .ok (.getfield 57, 3) := by decide +kernel
theorem dX5_clear_8 : decode cX5_clear 8 = .ok (.iadd, 1) := by decide +kernel
theorem dX5_clear_9 : decode cX5_clear 9 = .ok (.istore_n 1, 1) := by decide +kernel
theorem dX5_clear_10 : decode cX5_clear 10 = .ok (.aload_n 0, 1) := by decide +kernel
theorem dX5_clear_11 : decode cX5_clear 11 = .ok (.iconst 0, 1) := by decide +kernel
theorem dX5_clear_12 : decode cX5_clear 12 = .ok (.putfield 65, 3) := by decide +kernel
theorem dX5_clear_15 : decode cX5_clear 15 = .ok (.aload_n 0, 1) := by decide +kernel
theorem dX5_clear_16 : decode cX5_clear 16 = .ok (.iconst 0, 1) := by decide +kernel
theorem dX5_clear_17 : decode cX5_clear 17 = .ok (.putfield 57, 3) := by decide +kernel
theorem dX5_clear_20 : decode cX5_clear 20 = .ok (.aload_n 0, 1) := by decide +kernel
theorem dX5_clear_21 : decode cX5_clear 21 = .ok (.iconst 0, 1) := by decide +kernel
theorem dX5_clear_22 : decode cX5_clear 22 = .ok (.putfield 53, 3) := by decide +kernel
theorem dX5_clear_25 : decode cX5_clear 25 = .ok (.iload_n 1, 1) := by decide +kernel
theorem dX5_clear_26 : decode cX5_clear 26 = .ok (.ireturn, 1) := by decide +kernel
theorem dX5_oldLength_0 : decode cX5_oldLength 0 = .ok (.aload_n 0, 1) := by decide +kernel
theorem dX5_oldLength_1 : decode cX5_oldLength 1 = .ok (.getfield 65, 3) := by decide +kernel
theorem dX5_oldLength_4 : decode cX5_oldLength 4 = .ok (.ireturn, 1) := by decide +kernel
theorem dX5_newLength_0 : decode cX5_newLength 0 = .ok (.aload_n 0, 1) := by decide +kernel
theorem dX5_newLength_1 : decode cX5_newLength 1 = .ok (.getfield 57, 3) := by decide +kernel
theorem dX5_newLength_4 : decode cX5_newLength 4 = .ok (.ireturn, 1) := by decide +kernel
set_option maxRecDepth 20000 in
theorem ggX5_newValue_X5_isNew : GoodIn wsX5_newValue wsX5_isNew := goodIn_r _ [6, 7, 8, 9, 5, 10, 11, 12, 13, 14, 15, 16, 17, 18, 19, 20, 21, 22, 23, 24, 25, 26, 27, 28, 29] (by decide +kernel) (by decide +kernel)
set_option maxRecDepth 20000 in
theorem gX5_newValue_X5_isNew : GoodIn wsX5_newValue (wsV RX5 68 RX5 yX5_isNew wsX5_isNew) := goodIn_app (goodIn_of _ (by decide +kernel)) ggX5_newValue_X5_isNew
theorem dX5_newValue_0 : decode cX5_newValue 0 = .ok (.aload_n 0, 1) := by decide +kernel
theorem dX5_newValue_1 : decode cX5_newValue 1 = .ok (.iload_n 1, 1) := by decide +kernel
theorem dX5_newValue_2 : decode cX5_newValue 2 = .ok (.invokevirtual 68, 3) := by decide +kernel
theorem dX5_newValue_5 : decode cX5_newValue 5 = .ok (.ifCond .eq 12, 3) := by decide +kernel
theorem dX5_newValue_8 : decode cX5_newValue 8 = .ok (.aload_n 0, 1) := by decide +kernel
theorem dX5_newValue_9 : decode cX5_newValue 9 = .ok (.getfield 17, 3) := by decide +kernel
theorem dX5_newValue_12 : decode cX5_newValue 12 = .ok (.iload_n 1, 1) := by decide +kernel
theorem dX5_newValue_13 : decode cX5_newValue 13 = .ok (.iaload, 1) := by decide +kernel
theorem dX5_newValue_14 : decode cX5_newValue 14 = .ok (.goto 6, 3) := by decide +kernel
theorem dX5_newValue_17 : decode cX5_newValue 17 = .ok (.sipush (-10003), 3) := by decide +kernel
theorem dX5_newValue_20 : decode cX5_newValue 20 = .ok (.ireturn, 1) := by decide +kernel
theorem dX5_matches_0 : decode cX5_matches 0 = .ok (.aload_n 0, 1) := by decide +kernel
theorem dX5_matches_1 : decode cX5_matches 1 = .ok (.getfield 13, 3) := by decide +kernel
theorem dX5_matches_4 : decode cX5_matches 4 = .ok (.iload_n 1, 1) := by decide +kernel
theorem dX5_matches_5 : decode cX5_matches 5 = .ok (.baload, 1) := by decide +kernel
theorem dX5_matches_6 : decode cX5_matches 6 = .ok (.ifCond .eq 16, 3) := by decide +kernel
theorem dX5_matches_9 : decode cX5_matches 9 = .ok (.aload_n 0, 1) := by decide +kernel
theorem dX5_matches_10 : decode cX5_matches 10 = .ok (.getfield 20, 3) := by decide +kernel
theorem dX5_matches_13 : decode cX5_matches 13 = .ok (.iload_n 2, 1) := by decide +kernel
theorem dX5_matches_14 : decode cX5_matches 14 = .ok (.baload, 1) := by decide +kernel
theorem dX5_matches_15 : decode cX5_matches 15 = .ok (.ifCond .eq 7, 3) := by decide +kernel
theorem dX5_matches_18 : decode cX5_matches 18 = .ok (.iconst 1, 1) := by decide +kernel
theorem dX5_matches_19 : decode cX5_matches 19 = .ok (.goto 4, 3) := by decide +kernel
theorem dX5_matches_22 : decode cX5_matches 22 = .ok (.iconst 0, 1) := by decide +kernel
theorem dX5_matches_23 : decode cX5_matches 23 = .ok (.istore_n 3, 1) := by decide +kernel
theorem dX5_matches_24 : decode cX5_matches 24 = .ok (.aload_n 0, 1) := by decide +kernel
theorem dX5_matches_25 : decode cX5_matches 25 = .ok (.getfield 13, 3) := by decide +kernel
theorem dX5_matches_28 : decode cX5_matches 28 = .ok (.iload_n 1, 1) := by decide +kernel
theorem dX5_matches_29 : decode cX5_matches 29 = .ok (.baload, 1) := by decide +kernel
theorem dX5_matches_30 : decode cX5_matches 30 = .ok (.ifCond .ne 31, 3) := by decide +kernel
theorem dX5_matches_33 : decode cX5_matches 33 = .ok (.aload_n 0, 1) := by decide +kernel
theorem dX5_matches_34 : decode cX5_matches 34 = .ok (.getfield 20, 3) := by decide +kernel
theorem dX5_matches_37 : decode cX5_matches 37 = .ok (.iload_n 2, 1) := by decide +kernel
theorem dX5_matches_38 : decode cX5_matches 38 = .ok (.baload, 1) := by decide +kernel
theorem dX5_matches_39 : decode cX5_matches 39 = .ok (.ifCond .ne 22, 3) := by decide +kernel
theorem dX5_matches_42 : decode cX5_matches 42 = .ok (.aload_n 0, 1) := by decide +kernel
theorem dX5_matches_43 : decode cX5_matches 43 = .ok (.getfield 7, 3) := by decide +kernel
theorem dX5_matches_46 : decode cX5_matches 46 = .ok (.iload_n 1, 1) := by decide +kernel
theorem dX5_matches_47 : decode cX5_matches 47 = .ok (.iaload, 1) := by decide +kernel
theorem dX5_matches_48 : decode cX5_matches 48 = .ok (.aload_n 0, 1) := by decide +kernel
theorem dX5_matches_49 : decode cX5_matches 49 = .ok (.getfield 17, 3) := by decide +kernel
theorem dX5_matches_52 : decode cX5_matches 52 = .ok (.iload_n 2, 1) := by decide +kernel
theorem dX5_matches_53 : decode cX5_matches 53 = .ok (.iaload, 1) := by decide +kernel
theorem dX5_matches_54 : decode cX5_matches 54 = .ok (.if_icmp .ne 7, 3) := by decide +kernel
theorem dX5_matches_57 : decode cX5_matches 57 = .ok (.iconst 1, 1) := by decide +kernel
theorem dX5_matches_58 : decode cX5_matches 58 = .ok (.goto 4, 3) := by decide +kernel
theorem dX5_matches_61 : decode cX5_matches 61 = .ok (.iconst 0, 1) := by decide +kernel
theorem dX5_matches_62 : decode cX5_matches 62 = .ok (.istore 4, 2) := by decide +kernel
theorem dX5_matches_64 : decode cX5_matches 64 = .ok (.iload_n 3, 1) := by decide +kernel
theorem dX5_matches_65 : decode cX5_matches 65 = .ok (.ifCond .ne 8, 3) := by decide +kernel
theorem dX5_matches_68 : decode cX5_matches 68 = .ok (.iload 4, 2) := by decide +kernel
theorem dX5_matches_70 : decode cX5_matches 70 = .ok (.ifCond .eq 7, 3) := by decide +kernel
theorem dX5_matches_73 : decode cX5_matches 73 = .ok (.iconst 1, 1) := by decide +kernel
theorem dX5_matches_74 : decode cX5_matches 74 = .ok (.goto 4, 3) := by decide +kernel
theorem dX5_matches_77 : decode cX5_matches 77 = .ok (.iconst 0, 1) := by decide +kernel
theorem dX5_matches_78 : decode cX5_matches 78 = .ok (.ireturn, 1) := by decide +kernel
set_option maxRecDepth 20000 in
theorem ggX5_findsRuns_X5_matches : GoodIn wsX5_findsRuns wsX5_matches := goodIn_r _ [10, 11, 12, 13, 14, 15, 16, 17, 18, 19, 20, 21, 22, 23, 24, 25, 26, 27, 28, 29, 30, 31, 32, 33] (by decide +kernel) (by decide +kernel)
set_option maxRecDepth 20000 in
theorem gX5_findsRuns_X5_matches : GoodIn wsX5_findsRuns (wsV RX5 72 RX5 yX5_matches wsX5_matches) := goodIn_app (goodIn_of _ (by decide +kernel)) ggX5_findsRuns_X5_matches
theorem dX5_findsRuns_0 : decode cX5_findsRuns 0 = .ok (.aload_n 0, 1) := by decide +kernel
theorem dX5_findsRuns_1 : decode cX5_findsRuns 1 = .ok (.getfield 57, 3) := by decide +kernel
theorem dX5_findsRuns_4 : decode cX5_findsRuns 4 = .ok (.istore_n 1, 1) := by decide +kernel
theorem dX5_findsRuns_5 : decode cX5_findsRuns 5 = .ok (.iload_n 1, 1) := by decide +kernel
theorem dX5_findsRuns_6 : decode cX5_findsRuns 6 = .ok (.ifCond .lt 112, 3) := by decide +kernel
theorem dX5_findsRuns_9 : decode cX5_findsRuns 9 = .ok (.aload_n 0, 1) := by decide +kernel
theorem dX5_findsRuns_10 : decode cX5_findsRuns 10 = .ok (.getfield 65, 3) := by decide +kernel
theorem dX5_findsRuns_13 : decode cX5_findsRuns 13 = .ok (.istore_n 2, 1) := by decide +kernel
theorem dX5_findsRuns_14 : decode cX5_findsRuns 14 = .ok (.iload_n 2, 1) := by decide +kernel
theorem dX5_findsRuns_15 : decode cX5_findsRuns 15 = .ok (.ifCond .lt 97, 3) := by decide +kernel
theorem dX5_findsRuns_18 : decode cX5_findsRuns 18 = .ok (.iload_n 1, 1) := by decide +kernel
theorem dX5_findsRuns_19 : decode cX5_findsRuns 19 = .ok (.aload_n 0, 1) := by decide +kernel
theorem dX5_findsRuns_20 : decode cX5_findsRuns 20 = .ok (.getfield 57, 3) := by decide +kernel
theorem dX5_findsRuns_23 : decode cX5_findsRuns 23 = .ok (.if_icmp .ge 45, 3) := by decide +kernel
theorem dX5_findsRuns_26 : decode cX5_findsRuns 26 = .ok (.iload_n 2, 1) := by decide +kernel
theorem dX5_findsRuns_27 : decode cX5_findsRuns 27 = .ok (.aload_n 0, 1) := by decide +kernel
theorem dX5_findsRuns_28 : decode cX5_findsRuns 28 = .ok (.getfield 65, 3) := by decide +kernel
theorem dX5_findsRuns_31 : decode cX5_findsRuns 31 = .ok (.if_icmp .ge 37, 3) := by decide +kernel
theorem dX5_findsRuns_34 : decode cX5_findsRuns 34 = .ok (.aload_n 0, 1) := by decide +kernel
theorem dX5_findsRuns_35 : decode cX5_findsRuns 35 = .ok (.getfield 32, 3) := by decide +kernel
theorem dX5_findsRuns_38 : decode cX5_findsRuns 38 = .ok (.iload_n 1, 1) := by decide +kernel
theorem dX5_findsRuns_39 : decode cX5_findsRuns 39 = .ok (.iaload, 1) := by decide +kernel
theorem dX5_findsRuns_40 : decode cX5_findsRuns 40 = .ok (.sipush (-10005), 3) := by decide +kernel
theorem dX5_findsRuns_43 : decode cX5_findsRuns 43 = .ok (.if_icmp .ne 25, 3) := by decide +kernel
theorem dX5_findsRuns_46 : decode cX5_findsRuns 46 = .ok (.aload_n 0, 1) := by decide +kernel
theorem dX5_findsRuns_47 : decode cX5_findsRuns 47 = .ok (.getfield 35, 3) := by decide +kernel
theorem dX5_findsRuns_50 : decode cX5_findsRuns 50 = .ok (.iload_n 2, 1) := by decide +kernel
theorem dX5_findsRuns_51 : decode cX5_findsRuns 51 = .ok (.baload, 1) := by decide +kernel
theorem dX5_findsRuns_52 : decode cX5_findsRuns 52 = .ok (.ifCond .ne 16, 3) := by decide +kernel
theorem dX5_findsRuns_55 : decode cX5_findsRuns 55 = .ok (.aload_n 0, 1) := by decide +kernel
theorem dX5_findsRuns_56 : decode cX5_findsRuns 56 = .ok (.iload_n 2, 1) := by decide +kernel
theorem dX5_findsRuns_57 : decode cX5_findsRuns 57 = .ok (.iload_n 1, 1) := by decide +kernel
theorem dX5_findsRuns_58 : decode cX5_findsRuns 58 = .ok (.invokevirtual 72, 3) := by decide +kernel
theorem dX5_findsRuns_61 : decode cX5_findsRuns 61 = .ok (.ifCond .eq 7, 3) := by decide +kernel
theorem dX5_findsRuns_64 : decode cX5_findsRuns 64 = .ok (.iconst 1, 1) := by decide +kernel
theorem dX5_findsRuns_65 : decode cX5_findsRuns 65 = .ok (.goto 4, 3) := by decide +kernel
theorem dX5_findsRuns_68 : decode cX5_findsRuns 68 = .ok (.iconst 0, 1) := by decide +kernel
theorem dX5_findsRuns_69 : decode cX5_findsRuns 69 = .ok (.istore_n 3, 1) := by decide +kernel
theorem dX5_findsRuns_70 : decode cX5_findsRuns 70 = .ok (.aload_n 0, 1) := by decide +kernel
theorem dX5_findsRuns_71 : decode cX5_findsRuns 71 = .ok (.getfield 38, 3) := by decide +kernel
theorem dX5_findsRuns_74 : decode cX5_findsRuns 74 = .ok (.bipush 49, 2) := by decide +kernel
theorem dX5_findsRuns_76 : decode cX5_findsRuns 76 = .ok (.iload_n 1, 1) := by decide +kernel
theorem dX5_findsRuns_77 : decode cX5_findsRuns 77 = .ok (.imul, 1) := by decide +kernel
theorem dX5_findsRuns_78 : decode cX5_findsRuns 78 = .ok (.iload_n 2, 1) := by decide +kernel
theorem dX5_findsRuns_79 : decode cX5_findsRuns 79 = .ok (.iadd, 1) := by decide +kernel
theorem dX5_findsRuns_80 : decode cX5_findsRuns 80 = .ok (.iload_n 3, 1) := by decide +kernel
theorem dX5_findsRuns_81 : decode cX5_findsRuns 81 = .ok (.ifCond .eq 23, 3) := by decide +kernel
theorem dX5_findsRuns_84 : decode cX5_findsRuns 84 = .ok (.iconst 1, 1) := by decide +kernel
theorem dX5_findsRuns_85 : decode cX5_findsRuns 85 = .ok (.aload_n 0, 1) := by decide +kernel
theorem dX5_findsRuns_86 : decode cX5_findsRuns 86 = .ok (.getfield 38, 3) := by decide +kernel
theorem dX5_findsRuns_89 : decode cX5_findsRuns 89 = .ok (.bipush 49, 2) := by decide +kernel
theorem dX5_findsRuns_91 : decode cX5_findsRuns 91 = .ok (.iload_n 1, 1) := by decide +kernel
theorem dX5_findsRuns_92 : decode cX5_findsRuns 92 = .ok (.iconst 1, 1) := by decide +kernel
theorem dX5_findsRuns_93 : decode cX5_findsRuns 93 = .ok (.iadd, 1) := by decide +kernel
theorem dX5_findsRuns_94 : decode cX5_findsRuns 94 = .ok (.imul, 1) := by decide +kernel
theorem dX5_findsRuns_95 : decode cX5_findsRuns 95 = .ok (.iload_n 2, 1) := by decide +kernel
theorem dX5_findsRuns_96 : decode cX5_findsRuns 96 = .ok (.iadd, 1) := by decide +kernel
theorem dX5_findsRuns_97 : decode cX5_findsRuns 97 = .ok (.iconst 1, 1) := by decide +kernel
theorem dX5_findsRuns_98 : decode cX5_findsRuns 98 = .ok (.iadd, 1) := by decide +kernel
theorem dX5_findsRuns_99 : decode cX5_findsRuns 99 = .ok (.iaload, 1) := by decide +kernel
theorem dX5_findsRuns_100 : decode cX5_findsRuns 100 = .ok (.iadd, 1) := by decide +kernel
theorem dX5_findsRuns_101 : decode cX5_findsRuns 101 = .ok (.goto 4, 3) := by decide +kernel
theorem dX5_findsRuns_104 : decode cX5_findsRuns 104 = .ok (.iconst 0, 1) := by decide +kernel
theorem dX5_findsRuns_105 : decode cX5_findsRuns 105 = .ok (.iastore, 1) := by decide +kernel
theorem dX5_findsRuns_106 : decode cX5_findsRuns 106 = .ok (.iinc 2 (-1), 3) := by decide +kernel
theorem dX5_findsRuns_109 : decode cX5_findsRuns 109 = .ok (.goto (-95), 3) := by decide +kernel
theorem dX5_findsRuns_112 : decode cX5_findsRuns 112 = .ok (.iinc 1 (-1), 3) := by decide +kernel
theorem dX5_findsRuns_115 : decode cX5_findsRuns 115 = .ok (.goto (-110), 3) := by decide +kernel
theorem dX5_findsRuns_118 : decode cX5_findsRuns 118 = .ok (.return_, 1) := by decide +kernel
set_option maxRecDepth 20000 in
theorem ggX5_longestRun_X5_findsRuns : GoodIn wsX5_longestRun wsX5_findsRuns := goodIn_r _ [8, 1, 2, 9, 10, 3, 11, 12, 13, 7, 14, 15, 16, 17, 18, 19, 20, 21, 22, 23, 24, 25, 26, 27, 28, 29, 30, 31, 32, 33, 34, 35, 36, 37] (by decide +kernel) (by decide +kernel)
set_option maxRecDepth 20000 in
theorem gX5_longestRun_X5_findsRuns : GoodIn wsX5_longestRun (wsV RX5 76 RX5 yX5_findsRuns wsX5_findsRuns) := goodIn_app (goodIn_of _ (by decide +kernel)) ggX5_longestRun_X5_findsRuns
theorem dX5_longestRun_0 : decode cX5_longestRun 0 = .ok (.aload_n 0, 1) := by decide +kernel
theorem dX5_longestRun_1 : decode cX5_longestRun 1 = .ok (.invokevirtual 76, 3) := by decide +kernel
theorem dX5_longestRun_4 : decode cX5_longestRun 4 = .ok (.iconst 0, 1) := by decide +kernel
theorem dX5_longestRun_5 : decode cX5_longestRun 5 = .ok (.istore_n 1, 1) := by decide +kernel
theorem dX5_longestRun_6 : decode cX5_longestRun 6 = .ok (.iconst 0, 1) := by decide +kernel
theorem dX5_longestRun_7 : decode cX5_longestRun 7 = .ok (.istore_n 2, 1) := by decide +kernel
theorem dX5_longestRun_8 : decode cX5_longestRun 8 = .ok (.iload_n 2, 1) := by decide +kernel
theorem dX5_longestRun_9 : decode cX5_longestRun 9 = .ok (.aload_n 0, 1) := by decide +kernel
theorem dX5_longestRun_10 : decode cX5_longestRun 10 = .ok (.getfield 57, 3) := by decide +kernel
theorem dX5_longestRun_13 : decode cX5_longestRun 13 = .ok (.if_icmp .ge 56, 3) := by decide +kernel
theorem dX5_longestRun_16 : decode cX5_longestRun 16 = .ok (.iconst 0, 1) := by decide +kernel
theorem dX5_longestRun_17 : decode cX5_longestRun 17 = .ok (.istore_n 3, 1) := by decide +kernel
theorem dX5_longestRun_18 : decode cX5_longestRun 18 = .ok (.iload_n 3, 1) := by decide +kernel
theorem dX5_longestRun_19 : decode cX5_longestRun 19 = .ok (.aload_n 0, 1) := by decide +kernel
theorem dX5_longestRun_20 : decode cX5_longestRun 20 = .ok (.getfield 65, 3) := by decide +kernel
theorem dX5_longestRun_23 : decode cX5_longestRun 23 = .ok (.if_icmp .ge 40, 3) := by decide +kernel
theorem dX5_longestRun_26 : decode cX5_longestRun 26 = .ok (.aload_n 0, 1) := by decide +kernel
theorem dX5_longestRun_27 : decode cX5_longestRun 27 = .ok (.getfield 38, 3) := by decide +kernel
theorem dX5_longestRun_30 : decode cX5_longestRun 30 = .ok (.bipush 49, 2) := by decide +kernel
theorem dX5_longestRun_32 : decode cX5_longestRun 32 = .ok (.iload_n 2, 1) := by decide +kernel
theorem dX5_longestRun_33 : decode cX5_longestRun 33 = .ok (.imul, 1) := by decide +kernel
theorem dX5_longestRun_34 : decode cX5_longestRun 34 = .ok (.iload_n 3, 1) := by decide +kernel
theorem dX5_longestRun_35 : decode cX5_longestRun 35 = .ok (.iadd, 1) := by decide +kernel
theorem dX5_longestRun_36 : decode cX5_longestRun 36 = .ok (.iaload, 1) := by decide +kernel
theorem dX5_longestRun_37 : decode cX5_longestRun 37 = .ok (.aload_n 0, 1) := by decide +kernel
theorem dX5_longestRun_38 : decode cX5_longestRun 38 = .ok (.getfield 38, 3) := by decide +kernel
theorem dX5_longestRun_41 : decode cX5_longestRun 41 = .ok (.iload_n 1, 1) := by decide +kernel
theorem dX5_longestRun_42 : decode cX5_longestRun 42 = .ok (.iaload, 1) := by decide +kernel
theorem dX5_longestRun_43 : decode cX5_longestRun 43 = .ok (.if_icmp .le 12, 3) := by decide +kernel
theorem dX5_longestRun_46 : decode cX5_longestRun 46 = .ok (.bipush 49, 2) := by decide +kernel
theorem dX5_longestRun_48 : decode cX5_longestRun 48 = .ok (.iload_n 2, 1) := by decide +kernel
theorem dX5_longestRun_49 : decode cX5_longestRun 49 = .ok (.imul, 1) := by decide +kernel
theorem dX5_longestRun_50 : decode cX5_longestRun 50 = .ok (.iload_n 3, 1) := by decide +kernel
theorem dX5_longestRun_51 : decode cX5_longestRun 51 = .ok (.iadd, 1) := by decide +kernel
theorem dX5_longestRun_52 : decode cX5_longestRun 52 = .ok (.goto 4, 3) := by decide +kernel
theorem dX5_longestRun_55 : decode cX5_longestRun 55 = .ok (.iload_n 1, 1) := by decide +kernel
theorem dX5_longestRun_56 : decode cX5_longestRun 56 = .ok (.istore_n 1, 1) := by decide +kernel
theorem dX5_longestRun_57 : decode cX5_longestRun 57 = .ok (.iinc 3 1, 3) := by decide +kernel
theorem dX5_longestRun_60 : decode cX5_longestRun 60 = .ok (.goto (-42), 3) := by decide +kernel
theorem dX5_longestRun_63 : decode cX5_longestRun 63 = .ok (.iinc 2 1, 3) := by decide +kernel
theorem dX5_longestRun_66 : decode cX5_longestRun 66 = .ok (.goto (-58), 3) := by decide +kernel
theorem dX5_longestRun_69 : decode cX5_longestRun 69 = .ok (.iload_n 1, 1) := by decide +kernel
theorem dX5_longestRun_70 : decode cX5_longestRun 70 = .ok (.ireturn, 1) := by decide +kernel
theorem dX5_takes_0 : decode cX5_takes 0 = .ok (.iconst 0, 1) := by decide +kernel
theorem dX5_takes_1 : decode cX5_takes 1 = .ok (.istore_n 2, 1) := by decide +kernel
theorem dX5_takes_2 : decode cX5_takes 2 = .ok (.iload_n 2, 1) := by decide +kernel
theorem dX5_takes_3 : decode cX5_takes 3 = .ok (.aload_n 0, 1) := by decide +kernel
theorem dX5_takes_4 : decode cX5_takes 4 = .ok (.getfield 38, 3) := by decide +kernel
theorem dX5_takes_7 : decode cX5_takes 7 = .ok (.iload_n 1, 1) := by decide +kernel
theorem dX5_takes_8 : decode cX5_takes 8 = .ok (.iaload, 1) := by decide +kernel
theorem dX5_takes_9 : decode cX5_takes 9 = .ok (.if_icmp .ge 33, 3) := by decide +kernel
theorem dX5_takes_12 : decode cX5_takes 12 = .ok (.aload_n 0, 1) := by decide +kernel
theorem dX5_takes_13 : decode cX5_takes 13 = .ok (.getfield 32, 3) := by decide +kernel
theorem dX5_takes_16 : decode cX5_takes 16 = .ok (.iload_n 1, 1) := by decide +kernel
theorem dX5_takes_17 : decode cX5_takes 17 = .ok (.bipush 49, 2) := by decide +kernel
theorem dX5_takes_19 : decode cX5_takes 19 = .ok (.idiv, 1) := by decide +kernel
theorem dX5_takes_20 : decode cX5_takes 20 = .ok (.iload_n 2, 1) := by decide +kernel
theorem dX5_takes_21 : decode cX5_takes 21 = .ok (.iadd, 1) := by decide +kernel
theorem dX5_takes_22 : decode cX5_takes 22 = .ok (.iload_n 1, 1) := by decide +kernel
theorem dX5_takes_23 : decode cX5_takes 23 = .ok (.iastore, 1) := by decide +kernel
theorem dX5_takes_24 : decode cX5_takes 24 = .ok (.aload_n 0, 1) := by decide +kernel
theorem dX5_takes_25 : decode cX5_takes 25 = .ok (.getfield 35, 3) := by decide +kernel
theorem dX5_takes_28 : decode cX5_takes 28 = .ok (.iload_n 1, 1) := by decide +kernel
end
section
theorem dX5_takes_29 : decode cX5_takes 29 = .ok (.bipush 49, 2) := by decide +kernel
theorem dX5_takes_31 : decode cX5_takes 31 = .ok (.irem, 1) := by decide +kernel
theorem dX5_takes_32 : decode cX5_takes 32 = .ok (.iload_n 2, 1) := by decide +kernel
theorem dX5_takes_33 : decode cX5_takes 33 = .ok (.iadd, 1) := by decide +kernel
theorem dX5_takes_34 : decode cX5_takes 34 = .ok (.iconst 1, 1) := by decide +kernel
theorem dX5_takes_35 : decode cX5_takes 35 = .ok (.bastore, 1) := by decide +kernel
theorem dX5_takes_36 : decode cX5_takes 36 = .ok (.iinc 2 1, 3) := by decide +kernel
theorem dX5_takes_39 : decode cX5_takes 39 = .ok (.goto (-37), 3) := by decide +kernel
theorem dX5_takes_42 : decode cX5_takes 42 = .ok (.return_, 1) := by decide +kernel
set_option maxRecDepth 20000 in
theorem ggX5_build_X5_within : GoodIn wsX5_build wsX5_within := goodIn_r _ [9] (by decide +kernel) (by decide +kernel)
set_option maxRecDepth 20000 in
theorem gX5_build_X5_within : GoodIn wsX5_build (va_wsS RX5 61 yX5_within wsX5_within) := goodIn_app (goodIn_of _ (by decide +kernel)) ggX5_build_X5_within
set_option maxRecDepth 20000 in
theorem ggX5_build_X5_longestRun : GoodIn wsX5_build wsX5_longestRun := goodIn_r _ [13, 14, 15, 3, 16, 17, 18, 8, 19, 1, 2, 20, 21, 22, 23, 24, 25, 26, 27, 62, 63, 64, 65, 66, 67, 68, 69, 70, 71, 72, 73, 74, 75, 76, 77, 78, 79, 80] (by decide +kernel) (by decide +kernel)
set_option maxRecDepth 20000 in
theorem gX5_build_X5_longestRun : GoodIn wsX5_build (wsV RX5 79 RX5 yX5_longestRun wsX5_longestRun) := goodIn_app (goodIn_of _ (by decide +kernel)) ggX5_build_X5_longestRun
set_option maxRecDepth 20000 in
theorem ggX5_build_X5_takes : GoodIn wsX5_build wsX5_takes := goodIn_r _ [31, 3, 1, 2, 62, 63, 64, 65, 66, 67, 68, 69, 70, 71, 72, 73, 74, 75, 76, 77, 78, 79, 80] (by decide +kernel) (by decide +kernel)
set_option maxRecDepth 20000 in
theorem gX5_build_X5_takes : GoodIn wsX5_build (wsV RX5 83 RX5 yX5_takes wsX5_takes) := goodIn_app (goodIn_of _ (by decide +kernel)) ggX5_build_X5_takes
set_option maxRecDepth 20000 in
theorem ggX5_build_X5_numbers : GoodIn wsX5_build wsX5_numbers := goodIn_r _ [35, 5, 14, 1, 36, 37, 38, 62, 63, 64, 65, 66, 67, 68, 69, 70, 71, 72, 73, 74, 75, 76, 77, 78, 79, 80] (by decide +kernel) (by decide +kernel)
set_option maxRecDepth 20000 in
theorem gX5_build_X5_numbers : GoodIn wsX5_build (wsV RX5 87 RX5 yX5_numbers wsX5_numbers) := goodIn_app (goodIn_of _ (by decide +kernel)) ggX5_build_X5_numbers
set_option maxRecDepth 20000 in
theorem ggX5_build_X5_orders : GoodIn wsX5_build wsX5_orders := goodIn_r _ [42, 43, 5, 44, 45, 46, 47, 48, 8, 49, 50, 51, 52, 53, 54, 55, 56, 57, 37, 36, 38, 58, 59, 60, 61, 62, 63, 64, 65, 66, 67, 68, 69, 70, 71, 72, 73, 74, 75, 76, 77, 78, 79, 80] (by decide +kernel) (by decide +kernel)
set_option maxRecDepth 20000 in
theorem gX5_build_X5_orders : GoodIn wsX5_build (wsV RX5 90 RX5 yX5_orders wsX5_orders) := goodIn_app (goodIn_of _ (by decide +kernel)) ggX5_build_X5_orders
theorem dX5_build_0 : decode cX5_build 0 = .ok (.iload_n 1, 1) := by decide +kernel
theorem dX5_build_1 : decode cX5_build 1 = .ok (.iconst 1, 1) := by decide +kernel
theorem dX5_build_2 : decode cX5_build 2 = .ok (.bipush 16, 2) := by decide +kernel
theorem dX5_build_4 : decode cX5_build 4 = .ok (.invokestatic 61, 3) := by decide +kernel
theorem dX5_build_7 : decode cX5_build 7 = .ok (.ifCond .ne 7, 3) := by decide +kernel
theorem dX5_build_10 : decode cX5_build 10 = .ok (.sipush (-10001), 3) := by decide +kernel
theorem dX5_build_13 : decode cX5_build 13 = .ok (.ireturn, 1) := by decide +kernel
theorem dX5_build_14 : decode cX5_build 14 = .ok (.iconst 0, 1) := by decide +kernel
theorem dX5_build_15 : decode cX5_build 15 = .ok (.istore_n 2, 1) := by decide +kernel
theorem dX5_build_16 : decode cX5_build 16 = .ok (.iload_n 2, 1) := by decide +kernel
theorem dX5_build_17 : decode cX5_build 17 = .ok (.bipush 48, 2) := by decide +kernel
theorem dX5_build_19 : decode cX5_build 19 = .ok (.if_icmp .ge 25, 3) := by decide +kernel
theorem dX5_build_22 : decode cX5_build 22 = .ok (.aload_n 0, 1) := by decide +kernel
theorem dX5_build_23 : decode cX5_build 23 = .ok (.getfield 32, 3) := by decide +kernel
theorem dX5_build_26 : decode cX5_build 26 = .ok (.iload_n 2, 1) := by decide +kernel
theorem dX5_build_27 : decode cX5_build 27 = .ok (.sipush (-10005), 3) := by decide +kernel
theorem dX5_build_30 : decode cX5_build 30 = .ok (.iastore, 1) := by decide +kernel
theorem dX5_build_31 : decode cX5_build 31 = .ok (.aload_n 0, 1) := by decide +kernel
theorem dX5_build_32 : decode cX5_build 32 = .ok (.getfield 35, 3) := by decide +kernel
theorem dX5_build_35 : decode cX5_build 35 = .ok (.iload_n 2, 1) := by decide +kernel
theorem dX5_build_36 : decode cX5_build 36 = .ok (.iconst 0, 1) := by decide +kernel
theorem dX5_build_37 : decode cX5_build 37 = .ok (.bastore, 1) := by decide +kernel
theorem dX5_build_38 : decode cX5_build 38 = .ok (.iinc 2 1, 3) := by decide +kernel
theorem dX5_build_41 : decode cX5_build 41 = .ok (.goto (-25), 3) := by decide +kernel
theorem dX5_build_44 : decode cX5_build 44 = .ok (.aload_n 0, 1) := by decide +kernel
theorem dX5_build_45 : decode cX5_build 45 = .ok (.invokevirtual 79, 3) := by decide +kernel
theorem dX5_build_48 : decode cX5_build 48 = .ok (.istore_n 2, 1) := by decide +kernel
theorem dX5_build_49 : decode cX5_build 49 = .ok (.aload_n 0, 1) := by decide +kernel
theorem dX5_build_50 : decode cX5_build 50 = .ok (.getfield 38, 3) := by decide +kernel
theorem dX5_build_53 : decode cX5_build 53 = .ok (.iload_n 2, 1) := by decide +kernel
theorem dX5_build_54 : decode cX5_build 54 = .ok (.iaload, 1) := by decide +kernel
theorem dX5_build_55 : decode cX5_build 55 = .ok (.iload_n 1, 1) := by decide +kernel
theorem dX5_build_56 : decode cX5_build 56 = .ok (.if_icmp .lt 16, 3) := by decide +kernel
theorem dX5_build_59 : decode cX5_build 59 = .ok (.aload_n 0, 1) := by decide +kernel
theorem dX5_build_60 : decode cX5_build 60 = .ok (.iload_n 2, 1) := by decide +kernel
theorem dX5_build_61 : decode cX5_build 61 = .ok (.invokevirtual 83, 3) := by decide +kernel
theorem dX5_build_64 : decode cX5_build 64 = .ok (.aload_n 0, 1) := by decide +kernel
theorem dX5_build_65 : decode cX5_build 65 = .ok (.invokevirtual 79, 3) := by decide +kernel
theorem dX5_build_68 : decode cX5_build 68 = .ok (.istore_n 2, 1) := by decide +kernel
theorem dX5_build_69 : decode cX5_build 69 = .ok (.goto (-20), 3) := by decide +kernel
theorem dX5_build_72 : decode cX5_build 72 = .ok (.aload_n 0, 1) := by decide +kernel
theorem dX5_build_73 : decode cX5_build 73 = .ok (.invokevirtual 87, 3) := by decide +kernel
theorem dX5_build_76 : decode cX5_build 76 = .ok (.aload_n 0, 1) := by decide +kernel
theorem dX5_build_77 : decode cX5_build 77 = .ok (.invokevirtual 90, 3) := by decide +kernel
theorem dX5_build_80 : decode cX5_build 80 = .ok (.aload_n 0, 1) := by decide +kernel
theorem dX5_build_81 : decode cX5_build 81 = .ok (.iconst 1, 1) := by decide +kernel
theorem dX5_build_82 : decode cX5_build 82 = .ok (.putfield 53, 3) := by decide +kernel
theorem dX5_build_85 : decode cX5_build 85 = .ok (.aload_n 0, 1) := by decide +kernel
theorem dX5_build_86 : decode cX5_build 86 = .ok (.getfield 93, 3) := by decide +kernel
theorem dX5_build_89 : decode cX5_build 89 = .ok (.ireturn, 1) := by decide +kernel
theorem dX5_numbers_0 : decode cX5_numbers 0 = .ok (.aload_n 0, 1) := by decide +kernel
theorem dX5_numbers_1 : decode cX5_numbers 1 = .ok (.iconst 0, 1) := by decide +kernel
theorem dX5_numbers_2 : decode cX5_numbers 2 = .ok (.putfield 93, 3) := by decide +kernel
theorem dX5_numbers_5 : decode cX5_numbers 5 = .ok (.sipush (-10005), 3) := by decide +kernel
theorem dX5_numbers_8 : decode cX5_numbers 8 = .ok (.istore_n 1, 1) := by decide +kernel
theorem dX5_numbers_9 : decode cX5_numbers 9 = .ok (.iconst 0, 1) := by decide +kernel
theorem dX5_numbers_10 : decode cX5_numbers 10 = .ok (.istore_n 2, 1) := by decide +kernel
theorem dX5_numbers_11 : decode cX5_numbers 11 = .ok (.iload_n 2, 1) := by decide +kernel
theorem dX5_numbers_12 : decode cX5_numbers 12 = .ok (.aload_n 0, 1) := by decide +kernel
theorem dX5_numbers_13 : decode cX5_numbers 13 = .ok (.getfield 57, 3) := by decide +kernel
theorem dX5_numbers_16 : decode cX5_numbers 16 = .ok (.if_icmp .ge 103, 3) := by decide +kernel
theorem dX5_numbers_19 : decode cX5_numbers 19 = .ok (.aload_n 0, 1) := by decide +kernel
theorem dX5_numbers_20 : decode cX5_numbers 20 = .ok (.getfield 32, 3) := by decide +kernel
theorem dX5_numbers_23 : decode cX5_numbers 23 = .ok (.iload_n 2, 1) := by decide +kernel
theorem dX5_numbers_24 : decode cX5_numbers 24 = .ok (.iaload, 1) := by decide +kernel
theorem dX5_numbers_25 : decode cX5_numbers 25 = .ok (.istore_n 3, 1) := by decide +kernel
theorem dX5_numbers_26 : decode cX5_numbers 26 = .ok (.iload_n 3, 1) := by decide +kernel
theorem dX5_numbers_27 : decode cX5_numbers 27 = .ok (.sipush (-10005), 3) := by decide +kernel
theorem dX5_numbers_30 : decode cX5_numbers 30 = .ok (.if_icmp .eq 81, 3) := by decide +kernel
theorem dX5_numbers_33 : decode cX5_numbers 33 = .ok (.iload_n 3, 1) := by decide +kernel
theorem dX5_numbers_34 : decode cX5_numbers 34 = .ok (.iload_n 1, 1) := by decide +kernel
theorem dX5_numbers_35 : decode cX5_numbers 35 = .ok (.if_icmp .eq 49, 3) := by decide +kernel
theorem dX5_numbers_38 : decode cX5_numbers 38 = .ok (.aload_n 0, 1) := by decide +kernel
theorem dX5_numbers_39 : decode cX5_numbers 39 = .ok (.getfield 23, 3) := by decide +kernel
theorem dX5_numbers_42 : decode cX5_numbers 42 = .ok (.aload_n 0, 1) := by decide +kernel
theorem dX5_numbers_43 : decode cX5_numbers 43 = .ok (.getfield 93, 3) := by decide +kernel
theorem dX5_numbers_46 : decode cX5_numbers 46 = .ok (.iload_n 3, 1) := by decide +kernel
theorem dX5_numbers_47 : decode cX5_numbers 47 = .ok (.bipush 49, 2) := by decide +kernel
theorem dX5_numbers_49 : decode cX5_numbers 49 = .ok (.irem, 1) := by decide +kernel
theorem dX5_numbers_50 : decode cX5_numbers 50 = .ok (.iastore, 1) := by decide +kernel
theorem dX5_numbers_51 : decode cX5_numbers 51 = .ok (.aload_n 0, 1) := by decide +kernel
theorem dX5_numbers_52 : decode cX5_numbers 52 = .ok (.getfield 26, 3) := by decide +kernel
theorem dX5_numbers_55 : decode cX5_numbers 55 = .ok (.aload_n 0, 1) := by decide +kernel
theorem dX5_numbers_56 : decode cX5_numbers 56 = .ok (.getfield 93, 3) := by decide +kernel
theorem dX5_numbers_59 : decode cX5_numbers 59 = .ok (.iload_n 3, 1) := by decide +kernel
theorem dX5_numbers_60 : decode cX5_numbers 60 = .ok (.bipush 49, 2) := by decide +kernel
theorem dX5_numbers_62 : decode cX5_numbers 62 = .ok (.idiv, 1) := by decide +kernel
theorem dX5_numbers_63 : decode cX5_numbers 63 = .ok (.iastore, 1) := by decide +kernel
theorem dX5_numbers_64 : decode cX5_numbers 64 = .ok (.aload_n 0, 1) := by decide +kernel
theorem dX5_numbers_65 : decode cX5_numbers 65 = .ok (.getfield 29, 3) := by decide +kernel
theorem dX5_numbers_68 : decode cX5_numbers 68 = .ok (.aload_n 0, 1) := by decide +kernel
theorem dX5_numbers_69 : decode cX5_numbers 69 = .ok (.getfield 93, 3) := by decide +kernel
theorem dX5_numbers_72 : decode cX5_numbers 72 = .ok (.iconst 0, 1) := by decide +kernel
theorem dX5_numbers_73 : decode cX5_numbers 73 = .ok (.iastore, 1) := by decide +kernel
theorem dX5_numbers_74 : decode cX5_numbers 74 = .ok (.aload_n 0, 1) := by decide +kernel
theorem dX5_numbers_75 : decode cX5_numbers 75 = .ok (.dup, 1) := by decide +kernel
theorem dX5_numbers_76 : decode cX5_numbers 76 = .ok (.getfield 93, 3) := by decide +kernel
theorem dX5_numbers_79 : decode cX5_numbers 79 = .ok (.iconst 1, 1) := by decide +kernel
theorem dX5_numbers_80 : decode cX5_numbers 80 = .ok (.iadd, 1) := by decide +kernel
theorem dX5_numbers_81 : decode cX5_numbers 81 = .ok (.putfield 93, 3) := by decide +kernel
theorem dX5_numbers_84 : decode cX5_numbers 84 = .ok (.aload_n 0, 1) := by decide +kernel
theorem dX5_numbers_85 : decode cX5_numbers 85 = .ok (.getfield 29, 3) := by decide +kernel
theorem dX5_numbers_88 : decode cX5_numbers 88 = .ok (.aload_n 0, 1) := by decide +kernel
theorem dX5_numbers_89 : decode cX5_numbers 89 = .ok (.getfield 93, 3) := by decide +kernel
theorem dX5_numbers_92 : decode cX5_numbers 92 = .ok (.iconst 1, 1) := by decide +kernel
theorem dX5_numbers_93 : decode cX5_numbers 93 = .ok (.isub, 1) := by decide +kernel
theorem dX5_numbers_94 : decode cX5_numbers 94 = .ok (.dup2, 1) := by decide +kernel
theorem dX5_numbers_95 : decode cX5_numbers 95 = .ok (.iaload, 1) := by decide +kernel
theorem dX5_numbers_96 : decode cX5_numbers 96 = .ok (.iconst 1, 1) := by decide +kernel
theorem dX5_numbers_97 : decode cX5_numbers 97 = .ok (.iadd, 1) := by decide +kernel
theorem dX5_numbers_98 : decode cX5_numbers 98 = .ok (.iastore, 1) := by decide +kernel
theorem dX5_numbers_99 : decode cX5_numbers 99 = .ok (.aload_n 0, 1) := by decide +kernel
theorem dX5_numbers_100 : decode cX5_numbers 100 = .ok (.getfield 32, 3) := by decide +kernel
theorem dX5_numbers_103 : decode cX5_numbers 103 = .ok (.iload_n 2, 1) := by decide +kernel
theorem dX5_numbers_104 : decode cX5_numbers 104 = .ok (.aload_n 0, 1) := by decide +kernel
theorem dX5_numbers_105 : decode cX5_numbers 105 = .ok (.getfield 93, 3) := by decide +kernel
theorem dX5_numbers_108 : decode cX5_numbers 108 = .ok (.iconst 1, 1) := by decide +kernel
theorem dX5_numbers_109 : decode cX5_numbers 109 = .ok (.isub, 1) := by decide +kernel
theorem dX5_numbers_110 : decode cX5_numbers 110 = .ok (.iastore, 1) := by decide +kernel
theorem dX5_numbers_111 : decode cX5_numbers 111 = .ok (.iload_n 3, 1) := by decide +kernel
theorem dX5_numbers_112 : decode cX5_numbers 112 = .ok (.istore_n 1, 1) := by decide +kernel
theorem dX5_numbers_113 : decode cX5_numbers 113 = .ok (.iinc 2 1, 3) := by decide +kernel
theorem dX5_numbers_116 : decode cX5_numbers 116 = .ok (.goto (-105), 3) := by decide +kernel
theorem dX5_numbers_119 : decode cX5_numbers 119 = .ok (.return_, 1) := by decide +kernel
set_option maxRecDepth 20000 in
theorem ggX5_ofBlock_X5_within : GoodIn wsX5_ofBlock wsX5_within := goodIn_r _ [6] (by decide +kernel) (by decide +kernel)
set_option maxRecDepth 20000 in
theorem gX5_ofBlock_X5_within : GoodIn wsX5_ofBlock (va_wsS RX5 61 yX5_within wsX5_within) := goodIn_app (goodIn_of _ (by decide +kernel)) ggX5_ofBlock_X5_within
theorem dX5_ofBlock_0 : decode cX5_ofBlock 0 = .ok (.aload_n 0, 1) := by decide +kernel
theorem dX5_ofBlock_1 : decode cX5_ofBlock 1 = .ok (.getfield 53, 3) := by decide +kernel
theorem dX5_ofBlock_4 : decode cX5_ofBlock 4 = .ok (.ifCond .ne 7, 3) := by decide +kernel
theorem dX5_ofBlock_7 : decode cX5_ofBlock 7 = .ok (.sipush (-10004), 3) := by decide +kernel
theorem dX5_ofBlock_10 : decode cX5_ofBlock 10 = .ok (.ireturn, 1) := by decide +kernel
theorem dX5_ofBlock_11 : decode cX5_ofBlock 11 = .ok (.iload_n 1, 1) := by decide +kernel
theorem dX5_ofBlock_12 : decode cX5_ofBlock 12 = .ok (.iconst 0, 1) := by decide +kernel
theorem dX5_ofBlock_13 : decode cX5_ofBlock 13 = .ok (.aload_n 0, 1) := by decide +kernel
theorem dX5_ofBlock_14 : decode cX5_ofBlock 14 = .ok (.getfield 93, 3) := by decide +kernel
theorem dX5_ofBlock_17 : decode cX5_ofBlock 17 = .ok (.iconst 1, 1) := by decide +kernel
theorem dX5_ofBlock_18 : decode cX5_ofBlock 18 = .ok (.isub, 1) := by decide +kernel
theorem dX5_ofBlock_19 : decode cX5_ofBlock 19 = .ok (.invokestatic 61, 3) := by decide +kernel
theorem dX5_ofBlock_22 : decode cX5_ofBlock 22 = .ok (.ifCond .eq 9, 3) := by decide +kernel
theorem dX5_ofBlock_25 : decode cX5_ofBlock 25 = .ok (.aload_n 2, 1) := by decide +kernel
theorem dX5_ofBlock_26 : decode cX5_ofBlock 26 = .ok (.iload_n 1, 1) := by decide +kernel
theorem dX5_ofBlock_27 : decode cX5_ofBlock 27 = .ok (.iaload, 1) := by decide +kernel
theorem dX5_ofBlock_28 : decode cX5_ofBlock 28 = .ok (.goto 6, 3) := by decide +kernel
theorem dX5_ofBlock_31 : decode cX5_ofBlock 31 = .ok (.sipush (-10003), 3) := by decide +kernel
theorem dX5_ofBlock_34 : decode cX5_ofBlock 34 = .ok (.ireturn, 1) := by decide +kernel
set_option maxRecDepth 20000 in
theorem ggX5_blockOldStart_X5_ofBlock : GoodIn wsX5_blockOldStart wsX5_ofBlock := goodIn_r _ [6, 7, 8, 9, 10, 5, 11, 12, 13, 14, 15, 16, 17, 18, 19, 20, 21, 22, 23, 24, 25, 26, 27, 28, 29, 30] (by decide +kernel) (by decide +kernel)
set_option maxRecDepth 20000 in
theorem gX5_blockOldStart_X5_ofBlock : GoodIn wsX5_blockOldStart (wsV RX5 96 RX5 yX5_ofBlock wsX5_ofBlock) := goodIn_app (goodIn_of _ (by decide +kernel)) ggX5_blockOldStart_X5_ofBlock
theorem dX5_blockOldStart_0 : decode cX5_blockOldStart 0 = .ok (.aload_n 0, 1) := by decide +kernel
theorem dX5_blockOldStart_1 : decode cX5_blockOldStart 1 = .ok (.iload_n 1, 1) := by decide +kernel
theorem dX5_blockOldStart_2 : decode cX5_blockOldStart 2 = .ok (.aload_n 0, 1) := by decide +kernel
theorem dX5_blockOldStart_3 : decode cX5_blockOldStart 3 = .ok (.getfield 23, 3) := by decide +kernel
theorem dX5_blockOldStart_6 : decode cX5_blockOldStart 6 = .ok (.invokevirtual 96, 3) := by decide +kernel
theorem dX5_blockOldStart_9 : decode cX5_blockOldStart 9 = .ok (.ireturn, 1) := by decide +kernel
set_option maxRecDepth 20000 in
theorem ggX5_blockNewStart_X5_ofBlock : GoodIn wsX5_blockNewStart wsX5_ofBlock := goodIn_r _ [6, 7, 8, 9, 10, 5, 11, 12, 13, 14, 15, 16, 17, 18, 19, 20, 21, 22, 23, 24, 25, 26, 27, 28, 29, 30] (by decide +kernel) (by decide +kernel)
set_option maxRecDepth 20000 in
theorem gX5_blockNewStart_X5_ofBlock : GoodIn wsX5_blockNewStart (wsV RX5 96 RX5 yX5_ofBlock wsX5_ofBlock) := goodIn_app (goodIn_of _ (by decide +kernel)) ggX5_blockNewStart_X5_ofBlock
theorem dX5_blockNewStart_0 : decode cX5_blockNewStart 0 = .ok (.aload_n 0, 1) := by decide +kernel
theorem dX5_blockNewStart_1 : decode cX5_blockNewStart 1 = .ok (.iload_n 1, 1) := by decide +kernel
theorem dX5_blockNewStart_2 : decode cX5_blockNewStart 2 = .ok (.aload_n 0, 1) := by decide +kernel
theorem dX5_blockNewStart_3 : decode cX5_blockNewStart 3 = .ok (.getfield 26, 3) := by decide +kernel
theorem dX5_blockNewStart_6 : decode cX5_blockNewStart 6 = .ok (.invokevirtual 96, 3) := by decide +kernel
theorem dX5_blockNewStart_9 : decode cX5_blockNewStart 9 = .ok (.ireturn, 1) := by decide +kernel
set_option maxRecDepth 20000 in
theorem ggX5_blockLength_X5_ofBlock : GoodIn wsX5_blockLength wsX5_ofBlock := goodIn_r _ [6, 7, 8, 9, 10, 5, 11, 12, 13, 14, 15, 16, 17, 18, 19, 20, 21, 22, 23, 24, 25, 26, 27, 28, 29, 30] (by decide +kernel) (by decide +kernel)
set_option maxRecDepth 20000 in
theorem gX5_blockLength_X5_ofBlock : GoodIn wsX5_blockLength (wsV RX5 96 RX5 yX5_ofBlock wsX5_ofBlock) := goodIn_app (goodIn_of _ (by decide +kernel)) ggX5_blockLength_X5_ofBlock
theorem dX5_blockLength_0 : decode cX5_blockLength 0 = .ok (.aload_n 0, 1) := by decide +kernel
theorem dX5_blockLength_1 : decode cX5_blockLength 1 = .ok (.iload_n 1, 1) := by decide +kernel
theorem dX5_blockLength_2 : decode cX5_blockLength 2 = .ok (.aload_n 0, 1) := by decide +kernel
theorem dX5_blockLength_3 : decode cX5_blockLength 3 = .ok (.getfield 29, 3) := by decide +kernel
theorem dX5_blockLength_6 : decode cX5_blockLength 6 = .ok (.invokevirtual 96, 3) := by decide +kernel
theorem dX5_blockLength_9 : decode cX5_blockLength 9 = .ok (.ireturn, 1) := by decide +kernel
set_option maxRecDepth 20000 in
theorem ggX5_blockOf_X5_isNew : GoodIn wsX5_blockOf wsX5_isNew := goodIn_r _ [7, 8, 9, 10, 6, 11, 12, 13, 14, 15, 16, 17, 18, 19, 20, 21, 22, 23, 24, 25, 26, 27, 28, 29, 30] (by decide +kernel) (by decide +kernel)
set_option maxRecDepth 20000 in
theorem gX5_blockOf_X5_isNew : GoodIn wsX5_blockOf (wsV RX5 68 RX5 yX5_isNew wsX5_isNew) := goodIn_app (goodIn_of _ (by decide +kernel)) ggX5_blockOf_X5_isNew
theorem dX5_blockOf_0 : decode cX5_blockOf 0 = .ok (.aload_n 0, 1) := by decide +kernel
theorem dX5_blockOf_1 : decode cX5_blockOf 1 = .ok (.getfield 53, 3) := by decide +kernel
theorem dX5_blockOf_4 : decode cX5_blockOf 4 = .ok (.ifCond .ne 7, 3) := by decide +kernel
theorem dX5_blockOf_7 : decode cX5_blockOf 7 = .ok (.sipush (-10004), 3) := by decide +kernel
theorem dX5_blockOf_10 : decode cX5_blockOf 10 = .ok (.ireturn, 1) := by decide +kernel
theorem dX5_blockOf_11 : decode cX5_blockOf 11 = .ok (.aload_n 0, 1) := by decide +kernel
theorem dX5_blockOf_12 : decode cX5_blockOf 12 = .ok (.iload_n 1, 1) := by decide +kernel
theorem dX5_blockOf_13 : decode cX5_blockOf 13 = .ok (.invokevirtual 68, 3) := by decide +kernel
theorem dX5_blockOf_16 : decode cX5_blockOf 16 = .ok (.ifCond .eq 12, 3) := by decide +kernel
theorem dX5_blockOf_19 : decode cX5_blockOf 19 = .ok (.aload_n 0, 1) := by decide +kernel
theorem dX5_blockOf_20 : decode cX5_blockOf 20 = .ok (.getfield 32, 3) := by decide +kernel
theorem dX5_blockOf_23 : decode cX5_blockOf 23 = .ok (.iload_n 1, 1) := by decide +kernel
theorem dX5_blockOf_24 : decode cX5_blockOf 24 = .ok (.iaload, 1) := by decide +kernel
theorem dX5_blockOf_25 : decode cX5_blockOf 25 = .ok (.goto 6, 3) := by decide +kernel
theorem dX5_blockOf_28 : decode cX5_blockOf 28 = .ok (.sipush (-10003), 3) := by decide +kernel
theorem dX5_blockOf_31 : decode cX5_blockOf 31 = .ok (.ireturn, 1) := by decide +kernel
theorem dX5_predicts_0 : decode cX5_predicts 0 = .ok (.sipush (-10005), 3) := by decide +kernel
theorem dX5_predicts_3 : decode cX5_predicts 3 = .ok (.istore_n 2, 1) := by decide +kernel
theorem dX5_predicts_4 : decode cX5_predicts 4 = .ok (.iconst 0, 1) := by decide +kernel
theorem dX5_predicts_5 : decode cX5_predicts 5 = .ok (.istore_n 3, 1) := by decide +kernel
theorem dX5_predicts_6 : decode cX5_predicts 6 = .ok (.iload_n 3, 1) := by decide +kernel
theorem dX5_predicts_7 : decode cX5_predicts 7 = .ok (.aload_n 0, 1) := by decide +kernel
theorem dX5_predicts_8 : decode cX5_predicts 8 = .ok (.getfield 93, 3) := by decide +kernel
theorem dX5_predicts_11 : decode cX5_predicts 11 = .ok (.if_icmp .ge 59, 3) := by decide +kernel
theorem dX5_predicts_14 : decode cX5_predicts 14 = .ok (.aload_n 0, 1) := by decide +kernel
theorem dX5_predicts_15 : decode cX5_predicts 15 = .ok (.getfield 23, 3) := by decide +kernel
theorem dX5_predicts_18 : decode cX5_predicts 18 = .ok (.iload_n 3, 1) := by decide +kernel
theorem dX5_predicts_19 : decode cX5_predicts 19 = .ok (.iaload, 1) := by decide +kernel
theorem dX5_predicts_20 : decode cX5_predicts 20 = .ok (.iload_n 1, 1) := by decide +kernel
theorem dX5_predicts_21 : decode cX5_predicts 21 = .ok (.if_icmp .gt 7, 3) := by decide +kernel
theorem dX5_predicts_24 : decode cX5_predicts 24 = .ok (.iconst 1, 1) := by decide +kernel
theorem dX5_predicts_25 : decode cX5_predicts 25 = .ok (.goto 4, 3) := by decide +kernel
theorem dX5_predicts_28 : decode cX5_predicts 28 = .ok (.iconst 0, 1) := by decide +kernel
theorem dX5_predicts_29 : decode cX5_predicts 29 = .ok (.istore 4, 2) := by decide +kernel
theorem dX5_predicts_31 : decode cX5_predicts 31 = .ok (.iload 4, 2) := by decide +kernel
theorem dX5_predicts_33 : decode cX5_predicts 33 = .ok (.ifCond .eq 29, 3) := by decide +kernel
theorem dX5_predicts_36 : decode cX5_predicts 36 = .ok (.iload_n 2, 1) := by decide +kernel
theorem dX5_predicts_37 : decode cX5_predicts 37 = .ok (.sipush (-10005), 3) := by decide +kernel
theorem dX5_predicts_40 : decode cX5_predicts 40 = .ok (.if_icmp .eq 18, 3) := by decide +kernel
theorem dX5_predicts_43 : decode cX5_predicts 43 = .ok (.aload_n 0, 1) := by decide +kernel
theorem dX5_predicts_44 : decode cX5_predicts 44 = .ok (.getfield 23, 3) := by decide +kernel
theorem dX5_predicts_47 : decode cX5_predicts 47 = .ok (.iload_n 3, 1) := by decide +kernel
theorem dX5_predicts_48 : decode cX5_predicts 48 = .ok (.iaload, 1) := by decide +kernel
theorem dX5_predicts_49 : decode cX5_predicts 49 = .ok (.aload_n 0, 1) := by decide +kernel
theorem dX5_predicts_50 : decode cX5_predicts 50 = .ok (.getfield 23, 3) := by decide +kernel
theorem dX5_predicts_53 : decode cX5_predicts 53 = .ok (.iload_n 2, 1) := by decide +kernel
theorem dX5_predicts_54 : decode cX5_predicts 54 = .ok (.iaload, 1) := by decide +kernel
theorem dX5_predicts_55 : decode cX5_predicts 55 = .ok (.if_icmp .le 7, 3) := by decide +kernel
theorem dX5_predicts_58 : decode cX5_predicts 58 = .ok (.iload_n 3, 1) := by decide +kernel
theorem dX5_predicts_59 : decode cX5_predicts 59 = .ok (.goto 4, 3) := by decide +kernel
theorem dX5_predicts_62 : decode cX5_predicts 62 = .ok (.iload_n 2, 1) := by decide +kernel
theorem dX5_predicts_63 : decode cX5_predicts 63 = .ok (.istore_n 2, 1) := by decide +kernel
theorem dX5_predicts_64 : decode cX5_predicts 64 = .ok (.iinc 3 1, 3) := by decide +kernel
theorem dX5_predicts_67 : decode cX5_predicts 67 = .ok (.goto (-61), 3) := by decide +kernel
theorem dX5_predicts_70 : decode cX5_predicts 70 = .ok (.iload_n 2, 1) := by decide +kernel
theorem dX5_predicts_71 : decode cX5_predicts 71 = .ok (.sipush (-10005), 3) := by decide +kernel
theorem dX5_predicts_74 : decode cX5_predicts 74 = .ok (.if_icmp .ne 7, 3) := by decide +kernel
theorem dX5_predicts_77 : decode cX5_predicts 77 = .ok (.iload_n 1, 1) := by decide +kernel
theorem dX5_predicts_78 : decode cX5_predicts 78 = .ok (.goto 18, 3) := by decide +kernel
theorem dX5_predicts_81 : decode cX5_predicts 81 = .ok (.iload_n 1, 1) := by decide +kernel
theorem dX5_predicts_82 : decode cX5_predicts 82 = .ok (.aload_n 0, 1) := by decide +kernel
theorem dX5_predicts_83 : decode cX5_predicts 83 = .ok (.getfield 26, 3) := by decide +kernel
theorem dX5_predicts_86 : decode cX5_predicts 86 = .ok (.iload_n 2, 1) := by decide +kernel
theorem dX5_predicts_87 : decode cX5_predicts 87 = .ok (.iaload, 1) := by decide +kernel
theorem dX5_predicts_88 : decode cX5_predicts 88 = .ok (.iadd, 1) := by decide +kernel
theorem dX5_predicts_89 : decode cX5_predicts 89 = .ok (.aload_n 0, 1) := by decide +kernel
theorem dX5_predicts_90 : decode cX5_predicts 90 = .ok (.getfield 23, 3) := by decide +kernel
theorem dX5_predicts_93 : decode cX5_predicts 93 = .ok (.iload_n 2, 1) := by decide +kernel
theorem dX5_predicts_94 : decode cX5_predicts 94 = .ok (.iaload, 1) := by decide +kernel
theorem dX5_predicts_95 : decode cX5_predicts 95 = .ok (.isub, 1) := by decide +kernel
theorem dX5_predicts_96 : decode cX5_predicts 96 = .ok (.ireturn, 1) := by decide +kernel
set_option maxRecDepth 20000 in
theorem ggX5_predictedAddress_X5_within : GoodIn wsX5_predictedAddress wsX5_within := goodIn_r _ [5] (by decide +kernel) (by decide +kernel)
set_option maxRecDepth 20000 in
theorem gX5_predictedAddress_X5_within : GoodIn wsX5_predictedAddress (va_wsS RX5 61 yX5_within wsX5_within) := goodIn_app (goodIn_of _ (by decide +kernel)) ggX5_predictedAddress_X5_within
set_option maxRecDepth 20000 in
theorem ggX5_predictedAddress_X5_predicts : GoodIn wsX5_predictedAddress wsX5_predicts := goodIn_r _ [9, 10, 11, 12, 13, 14, 15, 16, 17, 18, 19, 20, 21, 22, 23, 24, 25, 26, 27, 28, 29, 30, 31] (by decide +kernel) (by decide +kernel)
set_option maxRecDepth 20000 in
theorem gX5_predictedAddress_X5_predicts : GoodIn wsX5_predictedAddress (wsV RX5 100 RX5 yX5_predicts wsX5_predicts) := goodIn_app (goodIn_of _ (by decide +kernel)) ggX5_predictedAddress_X5_predicts
theorem dX5_predictedAddress_0 : decode cX5_predictedAddress 0 = .ok (.aload_n 0, 1) := by decide +kernel
theorem dX5_predictedAddress_1 : decode cX5_predictedAddress 1 = .ok (.getfield 53, 3) := by decide +kernel
theorem dX5_predictedAddress_4 : decode cX5_predictedAddress 4 = .ok (.ifCond .ne 7, 3) := by decide +kernel
theorem dX5_predictedAddress_7 : decode cX5_predictedAddress 7 = .ok (.sipush (-10004), 3) := by decide +kernel
theorem dX5_predictedAddress_10 : decode cX5_predictedAddress 10 = .ok (.ireturn, 1) := by decide +kernel
theorem dX5_predictedAddress_11 : decode cX5_predictedAddress 11 = .ok (.iload_n 1, 1) := by decide +kernel
theorem dX5_predictedAddress_12 : decode cX5_predictedAddress 12 = .ok (.iconst 0, 1) := by decide +kernel
theorem dX5_predictedAddress_13 : decode cX5_predictedAddress 13 = .ok (.sipush 9999, 3) := by decide +kernel
theorem dX5_predictedAddress_16 : decode cX5_predictedAddress 16 = .ok (.invokestatic 61, 3) := by decide +kernel
theorem dX5_predictedAddress_19 : decode cX5_predictedAddress 19 = .ok (.ifCond .eq 11, 3) := by decide +kernel
theorem dX5_predictedAddress_22 : decode cX5_predictedAddress 22 = .ok (.aload_n 0, 1) := by decide +kernel
theorem dX5_predictedAddress_23 : decode cX5_predictedAddress 23 = .ok (.iload_n 1, 1) := by decide +kernel
theorem dX5_predictedAddress_24 : decode cX5_predictedAddress 24 = .ok (.invokevirtual 100, 3) := by decide +kernel
theorem dX5_predictedAddress_27 : decode cX5_predictedAddress 27 = .ok (.goto 6, 3) := by decide +kernel
theorem dX5_predictedAddress_30 : decode cX5_predictedAddress 30 = .ok (.sipush (-10001), 3) := by decide +kernel
theorem dX5_predictedAddress_33 : decode cX5_predictedAddress 33 = .ok (.ireturn, 1) := by decide +kernel
theorem dX5_oldIndexOf_0 : decode cX5_oldIndexOf 0 = .ok (.aload_n 0, 1) := by decide +kernel
theorem dX5_oldIndexOf_1 : decode cX5_oldIndexOf 1 = .ok (.getfield 32, 3) := by decide +kernel
theorem dX5_oldIndexOf_4 : decode cX5_oldIndexOf 4 = .ok (.iload_n 1, 1) := by decide +kernel
theorem dX5_oldIndexOf_5 : decode cX5_oldIndexOf 5 = .ok (.iaload, 1) := by decide +kernel
theorem dX5_oldIndexOf_6 : decode cX5_oldIndexOf 6 = .ok (.istore_n 2, 1) := by decide +kernel
theorem dX5_oldIndexOf_7 : decode cX5_oldIndexOf 7 = .ok (.aload_n 0, 1) := by decide +kernel
theorem dX5_oldIndexOf_8 : decode cX5_oldIndexOf 8 = .ok (.getfield 23, 3) := by decide +kernel
theorem dX5_oldIndexOf_11 : decode cX5_oldIndexOf 11 = .ok (.iload_n 2, 1) := by decide +kernel
theorem dX5_oldIndexOf_12 : decode cX5_oldIndexOf 12 = .ok (.iaload, 1) := by decide +kernel
theorem dX5_oldIndexOf_13 : decode cX5_oldIndexOf 13 = .ok (.iload_n 1, 1) := by decide +kernel
theorem dX5_oldIndexOf_14 : decode cX5_oldIndexOf 14 = .ok (.iadd, 1) := by decide +kernel
theorem dX5_oldIndexOf_15 : decode cX5_oldIndexOf 15 = .ok (.aload_n 0, 1) := by decide +kernel
theorem dX5_oldIndexOf_16 : decode cX5_oldIndexOf 16 = .ok (.getfield 26, 3) := by decide +kernel
theorem dX5_oldIndexOf_19 : decode cX5_oldIndexOf 19 = .ok (.iload_n 2, 1) := by decide +kernel
theorem dX5_oldIndexOf_20 : decode cX5_oldIndexOf 20 = .ok (.iaload, 1) := by decide +kernel
theorem dX5_oldIndexOf_21 : decode cX5_oldIndexOf 21 = .ok (.isub, 1) := by decide +kernel
theorem dX5_oldIndexOf_22 : decode cX5_oldIndexOf 22 = .ok (.ireturn, 1) := by decide +kernel
set_option maxRecDepth 20000 in
theorem ggX5_predictedAt_X5_oldIndexOf : GoodIn wsX5_predictedAt wsX5_oldIndexOf := goodIn_r _ [7, 8, 9, 10, 16, 17, 18, 19, 20, 21, 22, 23, 24, 25, 26, 27, 28, 29, 30, 31, 32, 33, 34] (by decide +kernel) (by decide +kernel)
set_option maxRecDepth 20000 in
theorem gX5_predictedAt_X5_oldIndexOf : GoodIn wsX5_predictedAt (wsV RX5 104 RX5 yX5_oldIndexOf wsX5_oldIndexOf) := goodIn_app (goodIn_of _ (by decide +kernel)) ggX5_predictedAt_X5_oldIndexOf
set_option maxRecDepth 20000 in
theorem ggX5_predictedAt_X5_predicts : GoodIn wsX5_predictedAt wsX5_predicts := goodIn_r _ [14, 15, 9, 10, 16, 17, 18, 19, 20, 21, 22, 23, 24, 25, 26, 27, 28, 29, 30, 31, 32, 33, 34] (by decide +kernel) (by decide +kernel)
set_option maxRecDepth 20000 in
theorem gX5_predictedAt_X5_predicts : GoodIn wsX5_predictedAt (wsV RX5 100 RX5 yX5_predicts wsX5_predicts) := goodIn_app (goodIn_of _ (by decide +kernel)) ggX5_predictedAt_X5_predicts
theorem dX5_predictedAt_0 : decode cX5_predictedAt 0 = .ok (.aload_n 0, 1) := by decide +kernel
theorem dX5_predictedAt_1 : decode cX5_predictedAt 1 = .ok (.iload_n 1, 1) := by decide +kernel
theorem dX5_predictedAt_2 : decode cX5_predictedAt 2 = .ok (.invokevirtual 104, 3) := by decide +kernel
theorem dX5_predictedAt_5 : decode cX5_predictedAt 5 = .ok (.istore_n 2, 1) := by decide +kernel
theorem dX5_predictedAt_6 : decode cX5_predictedAt 6 = .ok (.aload_n 0, 1) := by decide +kernel
theorem dX5_predictedAt_7 : decode cX5_predictedAt 7 = .ok (.getfield 13, 3) := by decide +kernel
theorem dX5_predictedAt_10 : decode cX5_predictedAt 10 = .ok (.iload_n 2, 1) := by decide +kernel
theorem dX5_predictedAt_11 : decode cX5_predictedAt 11 = .ok (.baload, 1) := by decide +kernel
theorem dX5_predictedAt_12 : decode cX5_predictedAt 12 = .ok (.ifCond .eq 16, 3) := by decide +kernel
theorem dX5_predictedAt_15 : decode cX5_predictedAt 15 = .ok (.aload_n 0, 1) := by decide +kernel
theorem dX5_predictedAt_16 : decode cX5_predictedAt 16 = .ok (.aload_n 0, 1) := by decide +kernel
theorem dX5_predictedAt_17 : decode cX5_predictedAt 17 = .ok (.getfield 7, 3) := by decide +kernel
theorem dX5_predictedAt_20 : decode cX5_predictedAt 20 = .ok (.iload_n 2, 1) := by decide +kernel
theorem dX5_predictedAt_21 : decode cX5_predictedAt 21 = .ok (.iaload, 1) := by decide +kernel
theorem dX5_predictedAt_22 : decode cX5_predictedAt 22 = .ok (.invokevirtual 100, 3) := by decide +kernel
theorem dX5_predictedAt_25 : decode cX5_predictedAt 25 = .ok (.goto 9, 3) := by decide +kernel
theorem dX5_predictedAt_28 : decode cX5_predictedAt 28 = .ok (.aload_n 0, 1) := by decide +kernel
theorem dX5_predictedAt_29 : decode cX5_predictedAt 29 = .ok (.getfield 7, 3) := by decide +kernel
theorem dX5_predictedAt_32 : decode cX5_predictedAt 32 = .ok (.iload_n 2, 1) := by decide +kernel
theorem dX5_predictedAt_33 : decode cX5_predictedAt 33 = .ok (.iaload, 1) := by decide +kernel
theorem dX5_predictedAt_34 : decode cX5_predictedAt 34 = .ok (.ireturn, 1) := by decide +kernel
set_option maxRecDepth 20000 in
theorem ggX5_predictedValue_X5_isNew : GoodIn wsX5_predictedValue wsX5_isNew := goodIn_r _ [7, 8, 9, 10, 6, 11, 29, 30, 31, 32, 33, 34, 35, 36, 37, 38, 39, 40, 41, 42, 43, 44, 45, 46, 47] (by decide +kernel) (by decide +kernel)
set_option maxRecDepth 20000 in
theorem gX5_predictedValue_X5_isNew : GoodIn wsX5_predictedValue (wsV RX5 68 RX5 yX5_isNew wsX5_isNew) := goodIn_app (goodIn_of _ (by decide +kernel)) ggX5_predictedValue_X5_isNew
set_option maxRecDepth 20000 in
theorem ggX5_predictedValue_X5_predictedAt : GoodIn wsX5_predictedValue wsX5_predictedAt := goodIn_r _ [15, 16, 17, 18, 19, 20, 6, 21, 2, 22, 23, 24, 25, 26, 27, 28, 29, 30, 31, 32, 33, 34, 35, 36, 37, 38, 39, 40, 41, 42, 43, 44, 45, 46, 47] (by decide +kernel) (by decide +kernel)
set_option maxRecDepth 20000 in
theorem gX5_predictedValue_X5_predictedAt : GoodIn wsX5_predictedValue (wsV RX5 107 RX5 yX5_predictedAt wsX5_predictedAt) := goodIn_app (goodIn_of _ (by decide +kernel)) ggX5_predictedValue_X5_predictedAt
theorem dX5_predictedValue_0 : decode cX5_predictedValue 0 = .ok (.aload_n 0, 1) := by decide +kernel
theorem dX5_predictedValue_1 : decode cX5_predictedValue 1 = .ok (.getfield 53, 3) := by decide +kernel
theorem dX5_predictedValue_4 : decode cX5_predictedValue 4 = .ok (.ifCond .ne 7, 3) := by decide +kernel
theorem dX5_predictedValue_7 : decode cX5_predictedValue 7 = .ok (.sipush (-10004), 3) := by decide +kernel
theorem dX5_predictedValue_10 : decode cX5_predictedValue 10 = .ok (.ireturn, 1) := by decide +kernel
theorem dX5_predictedValue_11 : decode cX5_predictedValue 11 = .ok (.aload_n 0, 1) := by decide +kernel
theorem dX5_predictedValue_12 : decode cX5_predictedValue 12 = .ok (.iload_n 1, 1) := by decide +kernel
theorem dX5_predictedValue_13 : decode cX5_predictedValue 13 = .ok (.invokevirtual 68, 3) := by decide +kernel
theorem dX5_predictedValue_16 : decode cX5_predictedValue 16 = .ok (.ifCond .ne 7, 3) := by decide +kernel
theorem dX5_predictedValue_19 : decode cX5_predictedValue 19 = .ok (.sipush (-10003), 3) := by decide +kernel
theorem dX5_predictedValue_22 : decode cX5_predictedValue 22 = .ok (.ireturn, 1) := by decide +kernel
theorem dX5_predictedValue_23 : decode cX5_predictedValue 23 = .ok (.aload_n 0, 1) := by decide +kernel
theorem dX5_predictedValue_24 : decode cX5_predictedValue 24 = .ok (.getfield 32, 3) := by decide +kernel
theorem dX5_predictedValue_27 : decode cX5_predictedValue 27 = .ok (.iload_n 1, 1) := by decide +kernel
theorem dX5_predictedValue_28 : decode cX5_predictedValue 28 = .ok (.iaload, 1) := by decide +kernel
theorem dX5_predictedValue_29 : decode cX5_predictedValue 29 = .ok (.sipush (-10005), 3) := by decide +kernel
theorem dX5_predictedValue_32 : decode cX5_predictedValue 32 = .ok (.if_icmp .ne 9, 3) := by decide +kernel
theorem dX5_predictedValue_35 : decode cX5_predictedValue 35 = .ok (.sipush (-10005), 3) := by decide +kernel
theorem dX5_predictedValue_38 : decode cX5_predictedValue 38 = .ok (.goto 8, 3) := by decide +kernel
theorem dX5_predictedValue_41 : decode cX5_predictedValue 41 = .ok (.aload_n 0, 1) := by decide +kernel
theorem dX5_predictedValue_42 : decode cX5_predictedValue 42 = .ok (.iload_n 1, 1) := by decide +kernel
theorem dX5_predictedValue_43 : decode cX5_predictedValue 43 = .ok (.invokevirtual 107, 3) := by decide +kernel
theorem dX5_predictedValue_46 : decode cX5_predictedValue 46 = .ok (.ireturn, 1) := by decide +kernel
set_option maxRecDepth 20000 in
theorem ggX5_isCorrected_X5_predictedAt : GoodIn wsX5_isCorrected wsX5_predictedAt := goodIn_r _ [7, 8, 9, 10, 11, 12, 6, 13, 1, 14, 15, 16, 17, 18, 19, 20, 21, 22, 23, 24, 25, 26, 27, 28, 29, 30, 31, 32, 33, 34, 35, 36, 37, 38, 39] (by decide +kernel) (by decide +kernel)
set_option maxRecDepth 20000 in
theorem gX5_isCorrected_X5_predictedAt : GoodIn wsX5_isCorrected (wsV RX5 107 RX5 yX5_predictedAt wsX5_predictedAt) := goodIn_app (goodIn_of _ (by decide +kernel)) ggX5_isCorrected_X5_predictedAt
theorem dX5_isCorrected_0 : decode cX5_isCorrected 0 = .ok (.aload_n 0, 1) := by decide +kernel
theorem dX5_isCorrected_1 : decode cX5_isCorrected 1 = .ok (.getfield 32, 3) := by decide +kernel
theorem dX5_isCorrected_4 : decode cX5_isCorrected 4 = .ok (.iload_n 1, 1) := by decide +kernel
theorem dX5_isCorrected_5 : decode cX5_isCorrected 5 = .ok (.iaload, 1) := by decide +kernel
theorem dX5_isCorrected_6 : decode cX5_isCorrected 6 = .ok (.sipush (-10005), 3) := by decide +kernel
theorem dX5_isCorrected_9 : decode cX5_isCorrected 9 = .ok (.if_icmp .eq 21, 3) := by decide +kernel
theorem dX5_isCorrected_12 : decode cX5_isCorrected 12 = .ok (.aload_n 0, 1) := by decide +kernel
theorem dX5_isCorrected_13 : decode cX5_isCorrected 13 = .ok (.iload_n 1, 1) := by decide +kernel
theorem dX5_isCorrected_14 : decode cX5_isCorrected 14 = .ok (.invokevirtual 107, 3) := by decide +kernel
theorem dX5_isCorrected_17 : decode cX5_isCorrected 17 = .ok (.aload_n 0, 1) := by decide +kernel
theorem dX5_isCorrected_18 : decode cX5_isCorrected 18 = .ok (.getfield 17, 3) := by decide +kernel
theorem dX5_isCorrected_21 : decode cX5_isCorrected 21 = .ok (.iload_n 1, 1) := by decide +kernel
theorem dX5_isCorrected_22 : decode cX5_isCorrected 22 = .ok (.iaload, 1) := by decide +kernel
theorem dX5_isCorrected_23 : decode cX5_isCorrected 23 = .ok (.if_icmp .eq 7, 3) := by decide +kernel
theorem dX5_isCorrected_26 : decode cX5_isCorrected 26 = .ok (.iconst 1, 1) := by decide +kernel
theorem dX5_isCorrected_27 : decode cX5_isCorrected 27 = .ok (.goto 4, 3) := by decide +kernel
theorem dX5_isCorrected_30 : decode cX5_isCorrected 30 = .ok (.iconst 0, 1) := by decide +kernel
theorem dX5_isCorrected_31 : decode cX5_isCorrected 31 = .ok (.ireturn, 1) := by decide +kernel
set_option maxRecDepth 20000 in
theorem ggX5_corrections_X5_isCorrected : GoodIn wsX5_corrections wsX5_isCorrected := goodIn_r _ [6, 7, 8, 9, 10, 11, 5, 12, 13, 14, 15, 16, 17, 18, 19, 20, 21, 22, 23, 24, 25, 26, 27, 28, 29, 30, 31, 32, 33, 34, 35, 36, 37, 38, 39, 40, 41, 42, 43, 44] (by decide +kernel) (by decide +kernel)
set_option maxRecDepth 20000 in
theorem gX5_corrections_X5_isCorrected : GoodIn wsX5_corrections (wsV RX5 110 RX5 yX5_isCorrected wsX5_isCorrected) := goodIn_app (goodIn_of _ (by decide +kernel)) ggX5_corrections_X5_isCorrected
theorem dX5_corrections_0 : decode cX5_corrections 0 = .ok (.iconst 0, 1) := by decide +kernel
theorem dX5_corrections_1 : decode cX5_corrections 1 = .ok (.istore_n 1, 1) := by decide +kernel
theorem dX5_corrections_2 : decode cX5_corrections 2 = .ok (.iconst 0, 1) := by decide +kernel
theorem dX5_corrections_3 : decode cX5_corrections 3 = .ok (.istore_n 2, 1) := by decide +kernel
theorem dX5_corrections_4 : decode cX5_corrections 4 = .ok (.iload_n 2, 1) := by decide +kernel
theorem dX5_corrections_5 : decode cX5_corrections 5 = .ok (.aload_n 0, 1) := by decide +kernel
theorem dX5_corrections_6 : decode cX5_corrections 6 = .ok (.getfield 57, 3) := by decide +kernel
theorem dX5_corrections_9 : decode cX5_corrections 9 = .ok (.if_icmp .ge 25, 3) := by decide +kernel
theorem dX5_corrections_12 : decode cX5_corrections 12 = .ok (.iload_n 1, 1) := by decide +kernel
theorem dX5_corrections_13 : decode cX5_corrections 13 = .ok (.aload_n 0, 1) := by decide +kernel
theorem dX5_corrections_14 : decode cX5_corrections 14 = .ok (.iload_n 2, 1) := by decide +kernel
theorem dX5_corrections_15 : decode cX5_corrections 15 = .ok (.invokevirtual 110, 3) := by decide +kernel
theorem dX5_corrections_18 : decode cX5_corrections 18 = .ok (.ifCond .eq 7, 3) := by decide +kernel
theorem dX5_corrections_21 : decode cX5_corrections 21 = .ok (.iconst 1, 1) := by decide +kernel
theorem dX5_corrections_22 : decode cX5_corrections 22 = .ok (.goto 4, 3) := by decide +kernel
theorem dX5_corrections_25 : decode cX5_corrections 25 = .ok (.iconst 0, 1) := by decide +kernel
theorem dX5_corrections_26 : decode cX5_corrections 26 = .ok (.iadd, 1) := by decide +kernel
theorem dX5_corrections_27 : decode cX5_corrections 27 = .ok (.istore_n 1, 1) := by decide +kernel
theorem dX5_corrections_28 : decode cX5_corrections 28 = .ok (.iinc 2 1, 3) := by decide +kernel
theorem dX5_corrections_31 : decode cX5_corrections 31 = .ok (.goto (-27), 3) := by decide +kernel
theorem dX5_corrections_34 : decode cX5_corrections 34 = .ok (.iload_n 1, 1) := by decide +kernel
theorem dX5_corrections_35 : decode cX5_corrections 35 = .ok (.ireturn, 1) := by decide +kernel
set_option maxRecDepth 20000 in
theorem ggX5_correctionCount_X5_corrections : GoodIn wsX5_correctionCount wsX5_corrections := goodIn_r _ [6, 7, 8, 9, 10, 5, 11, 12, 13, 14, 15, 16, 17, 18, 19, 20, 21, 22, 23, 24, 25, 26, 27, 28, 29, 30, 31, 32, 33, 34, 35, 36, 37, 38, 39, 40, 41, 42, 43, 44, 45, 46, 47, 48, 49] (by decide +kernel) (by decide +kernel)
set_option maxRecDepth 20000 in
theorem gX5_correctionCount_X5_corrections : GoodIn wsX5_correctionCount (wsV RX5 113 RX5 yX5_corrections wsX5_corrections) := goodIn_app (goodIn_of _ (by decide +kernel)) ggX5_correctionCount_X5_corrections
theorem dX5_correctionCount_0 : decode cX5_correctionCount 0 = .ok (.aload_n 0, 1) := by decide +kernel
theorem dX5_correctionCount_1 : decode cX5_correctionCount 1 = .ok (.getfield 53, 3) := by decide +kernel
theorem dX5_correctionCount_4 : decode cX5_correctionCount 4 = .ok (.ifCond .eq 10, 3) := by decide +kernel
theorem dX5_correctionCount_7 : decode cX5_correctionCount 7 = .ok (.aload_n 0, 1) := by decide +kernel
theorem dX5_correctionCount_8 : decode cX5_correctionCount 8 = .ok (.invokevirtual 113, 3) := by decide +kernel
theorem dX5_correctionCount_11 : decode cX5_correctionCount 11 = .ok (.goto 6, 3) := by decide +kernel
theorem dX5_correctionCount_14 : decode cX5_correctionCount 14 = .ok (.sipush (-10004), 3) := by decide +kernel
theorem dX5_correctionCount_17 : decode cX5_correctionCount 17 = .ok (.ireturn, 1) := by decide +kernel
set_option maxRecDepth 20000 in
theorem ggX5_correctionIndex_X5_isCorrected : GoodIn wsX5_correctionIndex wsX5_isCorrected := goodIn_r _ [7, 8, 9, 10, 11, 12, 6, 13, 14, 15, 16, 17, 18, 19, 20, 21, 22, 23, 24, 25, 26, 27, 28, 29, 30, 31, 32, 33, 34, 35, 36, 37, 38, 39, 40, 41, 42, 43, 44, 45] (by decide +kernel) (by decide +kernel)
set_option maxRecDepth 20000 in
theorem gX5_correctionIndex_X5_isCorrected : GoodIn wsX5_correctionIndex (wsV RX5 110 RX5 yX5_isCorrected wsX5_isCorrected) := goodIn_app (goodIn_of _ (by decide +kernel)) ggX5_correctionIndex_X5_isCorrected
theorem dX5_correctionIndex_0 : decode cX5_correctionIndex 0 = .ok (.aload_n 0, 1) := by decide +kernel
theorem dX5_correctionIndex_1 : decode cX5_correctionIndex 1 = .ok (.getfield 53, 3) := by decide +kernel
theorem dX5_correctionIndex_4 : decode cX5_correctionIndex 4 = .ok (.ifCond .ne 7, 3) := by decide +kernel
theorem dX5_correctionIndex_7 : decode cX5_correctionIndex 7 = .ok (.sipush (-10004), 3) := by decide +kernel
theorem dX5_correctionIndex_10 : decode cX5_correctionIndex 10 = .ok (.ireturn, 1) := by decide +kernel
theorem dX5_correctionIndex_11 : decode cX5_correctionIndex 11 = .ok (.iload_n 1, 1) := by decide +kernel
theorem dX5_correctionIndex_12 : decode cX5_correctionIndex 12 = .ok (.istore_n 2, 1) := by decide +kernel
theorem dX5_correctionIndex_13 : decode cX5_correctionIndex 13 = .ok (.iconst 0, 1) := by decide +kernel
theorem dX5_correctionIndex_14 : decode cX5_correctionIndex 14 = .ok (.istore_n 3, 1) := by decide +kernel
theorem dX5_correctionIndex_15 : decode cX5_correctionIndex 15 = .ok (.iload_n 3, 1) := by decide +kernel
theorem dX5_correctionIndex_16 : decode cX5_correctionIndex 16 = .ok (.aload_n 0, 1) := by decide +kernel
theorem dX5_correctionIndex_17 : decode cX5_correctionIndex 17 = .ok (.getfield 57, 3) := by decide +kernel
theorem dX5_correctionIndex_20 : decode cX5_correctionIndex 20 = .ok (.if_icmp .ge 30, 3) := by decide +kernel
theorem dX5_correctionIndex_23 : decode cX5_correctionIndex 23 = .ok (.iload_n 2, 1) := by decide +kernel
theorem dX5_correctionIndex_24 : decode cX5_correctionIndex 24 = .ok (.ifCond .lt 26, 3) := by decide +kernel
theorem dX5_correctionIndex_27 : decode cX5_correctionIndex 27 = .ok (.aload_n 0, 1) := by decide +kernel
theorem dX5_correctionIndex_28 : decode cX5_correctionIndex 28 = .ok (.iload_n 3, 1) := by decide +kernel
theorem dX5_correctionIndex_29 : decode cX5_correctionIndex 29 = .ok (.invokevirtual 110, 3) := by decide +kernel
theorem dX5_correctionIndex_32 : decode cX5_correctionIndex 32 = .ok (.ifCond .eq 12, 3) := by decide +kernel
theorem dX5_correctionIndex_35 : decode cX5_correctionIndex 35 = .ok (.iload_n 2, 1) := by decide +kernel
theorem dX5_correctionIndex_36 : decode cX5_correctionIndex 36 = .ok (.ifCond .ne 5, 3) := by decide +kernel
theorem dX5_correctionIndex_39 : decode cX5_correctionIndex 39 = .ok (.iload_n 3, 1) := by decide +kernel
theorem dX5_correctionIndex_40 : decode cX5_correctionIndex 40 = .ok (.ireturn, 1) := by decide +kernel
theorem dX5_correctionIndex_41 : decode cX5_correctionIndex 41 = .ok (.iinc 2 (-1), 3) := by decide +kernel
theorem dX5_correctionIndex_44 : decode cX5_correctionIndex 44 = .ok (.iinc 3 1, 3) := by decide +kernel
theorem dX5_correctionIndex_47 : decode cX5_correctionIndex 47 = .ok (.goto (-32), 3) := by decide +kernel
theorem dX5_correctionIndex_50 : decode cX5_correctionIndex 50 = .ok (.sipush (-10003), 3) := by decide +kernel
theorem dX5_correctionIndex_53 : decode cX5_correctionIndex 53 = .ok (.ireturn, 1) := by decide +kernel
theorem dX5_literals_0 : decode cX5_literals 0 = .ok (.iconst 0, 1) := by decide +kernel
theorem dX5_literals_1 : decode cX5_literals 1 = .ok (.istore_n 1, 1) := by decide +kernel
theorem dX5_literals_2 : decode cX5_literals 2 = .ok (.iconst 0, 1) := by decide +kernel
theorem dX5_literals_3 : decode cX5_literals 3 = .ok (.istore_n 2, 1) := by decide +kernel
theorem dX5_literals_4 : decode cX5_literals 4 = .ok (.iload_n 2, 1) := by decide +kernel
theorem dX5_literals_5 : decode cX5_literals 5 = .ok (.aload_n 0, 1) := by decide +kernel
theorem dX5_literals_6 : decode cX5_literals 6 = .ok (.getfield 57, 3) := by decide +kernel
theorem dX5_literals_9 : decode cX5_literals 9 = .ok (.if_icmp .ge 29, 3) := by decide +kernel
theorem dX5_literals_12 : decode cX5_literals 12 = .ok (.iload_n 1, 1) := by decide +kernel
theorem dX5_literals_13 : decode cX5_literals 13 = .ok (.aload_n 0, 1) := by decide +kernel
theorem dX5_literals_14 : decode cX5_literals 14 = .ok (.getfield 32, 3) := by decide +kernel
theorem dX5_literals_17 : decode cX5_literals 17 = .ok (.iload_n 2, 1) := by decide +kernel
theorem dX5_literals_18 : decode cX5_literals 18 = .ok (.iaload, 1) := by decide +kernel
theorem dX5_literals_19 : decode cX5_literals 19 = .ok (.sipush (-10005), 3) := by decide +kernel
theorem dX5_literals_22 : decode cX5_literals 22 = .ok (.if_icmp .ne 7, 3) := by decide +kernel
theorem dX5_literals_25 : decode cX5_literals 25 = .ok (.iconst 1, 1) := by decide +kernel
theorem dX5_literals_26 : decode cX5_literals 26 = .ok (.goto 4, 3) := by decide +kernel
theorem dX5_literals_29 : decode cX5_literals 29 = .ok (.iconst 0, 1) := by decide +kernel
theorem dX5_literals_30 : decode cX5_literals 30 = .ok (.iadd, 1) := by decide +kernel
theorem dX5_literals_31 : decode cX5_literals 31 = .ok (.istore_n 1, 1) := by decide +kernel
theorem dX5_literals_32 : decode cX5_literals 32 = .ok (.iinc 2 1, 3) := by decide +kernel
theorem dX5_literals_35 : decode cX5_literals 35 = .ok (.goto (-31), 3) := by decide +kernel
theorem dX5_literals_38 : decode cX5_literals 38 = .ok (.iload_n 1, 1) := by decide +kernel
theorem dX5_literals_39 : decode cX5_literals 39 = .ok (.ireturn, 1) := by decide +kernel
set_option maxRecDepth 20000 in
theorem ggX5_literalCount_X5_literals : GoodIn wsX5_literalCount wsX5_literals := goodIn_r _ [6, 7, 8, 9, 10, 11, 12, 13, 14, 15, 16, 17, 18, 19, 20, 21, 22, 23, 24, 25, 26, 27] (by decide +kernel) (by decide +kernel)
set_option maxRecDepth 20000 in
theorem gX5_literalCount_X5_literals : GoodIn wsX5_literalCount (wsV RX5 116 RX5 yX5_literals wsX5_literals) := goodIn_app (goodIn_of _ (by decide +kernel)) ggX5_literalCount_X5_literals
theorem dX5_literalCount_0 : decode cX5_literalCount 0 = .ok (.aload_n 0, 1) := by decide +kernel
theorem dX5_literalCount_1 : decode cX5_literalCount 1 = .ok (.getfield 53, 3) := by decide +kernel
theorem dX5_literalCount_4 : decode cX5_literalCount 4 = .ok (.ifCond .eq 10, 3) := by decide +kernel
theorem dX5_literalCount_7 : decode cX5_literalCount 7 = .ok (.aload_n 0, 1) := by decide +kernel
theorem dX5_literalCount_8 : decode cX5_literalCount 8 = .ok (.invokevirtual 116, 3) := by decide +kernel
theorem dX5_literalCount_11 : decode cX5_literalCount 11 = .ok (.goto 6, 3) := by decide +kernel
theorem dX5_literalCount_14 : decode cX5_literalCount 14 = .ok (.sipush (-10004), 3) := by decide +kernel
theorem dX5_literalCount_17 : decode cX5_literalCount 17 = .ok (.ireturn, 1) := by decide +kernel
set_option maxRecDepth 20000 in
theorem ggX5_patchSize_X5_literals : GoodIn wsX5_patchSize wsX5_literals := goodIn_r _ [7, 8, 9, 35, 36, 37, 38, 39, 40, 41, 42, 43, 44, 45, 46, 47, 48, 49, 50, 51, 52, 53] (by decide +kernel) (by decide +kernel)
set_option maxRecDepth 20000 in
theorem gX5_patchSize_X5_literals : GoodIn wsX5_patchSize (wsV RX5 116 RX5 yX5_literals wsX5_literals) := goodIn_app (goodIn_of _ (by decide +kernel)) ggX5_patchSize_X5_literals
set_option maxRecDepth 20000 in
theorem ggX5_patchSize_X5_corrections : GoodIn wsX5_patchSize wsX5_corrections := goodIn_r _ [13, 8, 14, 15, 16, 6, 17, 9, 18, 19, 20, 21, 22, 23, 24, 25, 26, 27, 28, 29, 30, 31, 32, 33, 34, 2, 35, 36, 37, 38, 39, 40, 41, 42, 43, 44, 45, 46, 47, 48, 49, 50, 51, 52, 53] (by decide +kernel) (by decide +kernel)
set_option maxRecDepth 20000 in
theorem gX5_patchSize_X5_corrections : GoodIn wsX5_patchSize (wsV RX5 113 RX5 yX5_corrections wsX5_corrections) := goodIn_app (goodIn_of _ (by decide +kernel)) ggX5_patchSize_X5_corrections
theorem dX5_patchSize_0 : decode cX5_patchSize 0 = .ok (.aload_n 0, 1) := by decide +kernel
theorem dX5_patchSize_1 : decode cX5_patchSize 1 = .ok (.getfield 53, 3) := by decide +kernel
theorem dX5_patchSize_4 : decode cX5_patchSize 4 = .ok (.ifCond .eq 24, 3) := by decide +kernel
theorem dX5_patchSize_7 : decode cX5_patchSize 7 = .ok (.iconst 3, 1) := by decide +kernel
theorem dX5_patchSize_8 : decode cX5_patchSize 8 = .ok (.aload_n 0, 1) := by decide +kernel
theorem dX5_patchSize_9 : decode cX5_patchSize 9 = .ok (.getfield 93, 3) := by decide +kernel
theorem dX5_patchSize_12 : decode cX5_patchSize 12 = .ok (.imul, 1) := by decide +kernel
theorem dX5_patchSize_13 : decode cX5_patchSize 13 = .ok (.aload_n 0, 1) := by decide +kernel
theorem dX5_patchSize_14 : decode cX5_patchSize 14 = .ok (.invokevirtual 116, 3) := by decide +kernel
theorem dX5_patchSize_17 : decode cX5_patchSize 17 = .ok (.iadd, 1) := by decide +kernel
theorem dX5_patchSize_18 : decode cX5_patchSize 18 = .ok (.iconst 2, 1) := by decide +kernel
theorem dX5_patchSize_19 : decode cX5_patchSize 19 = .ok (.aload_n 0, 1) := by decide +kernel
theorem dX5_patchSize_20 : decode cX5_patchSize 20 = .ok (.invokevirtual 113, 3) := by decide +kernel
theorem dX5_patchSize_23 : decode cX5_patchSize 23 = .ok (.imul, 1) := by decide +kernel
theorem dX5_patchSize_24 : decode cX5_patchSize 24 = .ok (.iadd, 1) := by decide +kernel
theorem dX5_patchSize_25 : decode cX5_patchSize 25 = .ok (.goto 6, 3) := by decide +kernel
theorem dX5_patchSize_28 : decode cX5_patchSize 28 = .ok (.sipush (-10004), 3) := by decide +kernel
theorem dX5_patchSize_31 : decode cX5_patchSize 31 = .ok (.ireturn, 1) := by decide +kernel
set_option maxRecDepth 20000 in
theorem ggX5_unpredictedSize_X5_oldIndexOf : GoodIn wsX5_unpredictedSize wsX5_oldIndexOf := goodIn_r _ [11, 3, 12, 13, 18, 19, 20, 21, 22, 23, 24, 25, 26, 27, 28, 29, 30, 31, 32, 33, 34, 35, 36] (by decide +kernel) (by decide +kernel)
set_option maxRecDepth 20000 in
theorem gX5_unpredictedSize_X5_oldIndexOf : GoodIn wsX5_unpredictedSize (wsV RX5 104 RX5 yX5_oldIndexOf wsX5_oldIndexOf) := goodIn_app (goodIn_of _ (by decide +kernel)) ggX5_unpredictedSize_X5_oldIndexOf
set_option maxRecDepth 20000 in
theorem ggX5_unpredictedSize_X5_literals : GoodIn wsX5_unpredictedSize wsX5_literals := goodIn_r _ [17, 2, 3, 18, 19, 20, 21, 22, 23, 24, 25, 26, 27, 28, 29, 30, 31, 32, 33, 34, 35, 36] (by decide +kernel) (by decide +kernel)
set_option maxRecDepth 20000 in
theorem gX5_unpredictedSize_X5_literals : GoodIn wsX5_unpredictedSize (wsV RX5 116 RX5 yX5_literals wsX5_literals) := goodIn_app (goodIn_of _ (by decide +kernel)) ggX5_unpredictedSize_X5_literals
theorem dX5_unpredictedSize_0 : decode cX5_unpredictedSize 0 = .ok (.aload_n 0, 1) := by decide +kernel
theorem dX5_unpredictedSize_1 : decode cX5_unpredictedSize 1 = .ok (.getfield 53, 3) := by decide +kernel
theorem dX5_unpredictedSize_4 : decode cX5_unpredictedSize 4 = .ok (.ifCond .ne 7, 3) := by decide +kernel
theorem dX5_unpredictedSize_7 : decode cX5_unpredictedSize 7 = .ok (.sipush (-10004), 3) := by decide +kernel
theorem dX5_unpredictedSize_10 : decode cX5_unpredictedSize 10 = .ok (.ireturn, 1) := by decide +kernel
theorem dX5_unpredictedSize_11 : decode cX5_unpredictedSize 11 = .ok (.iconst 0, 1) := by decide +kernel
theorem dX5_unpredictedSize_12 : decode cX5_unpredictedSize 12 = .ok (.istore_n 1, 1) := by decide +kernel
theorem dX5_unpredictedSize_13 : decode cX5_unpredictedSize 13 = .ok (.iconst 0, 1) := by decide +kernel
theorem dX5_unpredictedSize_14 : decode cX5_unpredictedSize 14 = .ok (.istore_n 2, 1) := by decide +kernel
theorem dX5_unpredictedSize_15 : decode cX5_unpredictedSize 15 = .ok (.iload_n 2, 1) := by decide +kernel
theorem dX5_unpredictedSize_16 : decode cX5_unpredictedSize 16 = .ok (.aload_n 0, 1) := by decide +kernel
theorem dX5_unpredictedSize_17 : decode cX5_unpredictedSize 17 = .ok (.getfield 57, 3) := by decide +kernel
theorem dX5_unpredictedSize_20 : decode cX5_unpredictedSize 20 = .ok (.if_icmp .ge 48, 3) := by decide +kernel
theorem dX5_unpredictedSize_23 : decode cX5_unpredictedSize 23 = .ok (.iload_n 1, 1) := by decide +kernel
theorem dX5_unpredictedSize_24 : decode cX5_unpredictedSize 24 = .ok (.aload_n 0, 1) := by decide +kernel
theorem dX5_unpredictedSize_25 : decode cX5_unpredictedSize 25 = .ok (.getfield 32, 3) := by decide +kernel
theorem dX5_unpredictedSize_28 : decode cX5_unpredictedSize 28 = .ok (.iload_n 2, 1) := by decide +kernel
theorem dX5_unpredictedSize_29 : decode cX5_unpredictedSize 29 = .ok (.iaload, 1) := by decide +kernel
theorem dX5_unpredictedSize_30 : decode cX5_unpredictedSize 30 = .ok (.sipush (-10005), 3) := by decide +kernel
theorem dX5_unpredictedSize_33 : decode cX5_unpredictedSize 33 = .ok (.if_icmp .eq 26, 3) := by decide +kernel
theorem dX5_unpredictedSize_36 : decode cX5_unpredictedSize 36 = .ok (.aload_n 0, 1) := by decide +kernel
theorem dX5_unpredictedSize_37 : decode cX5_unpredictedSize 37 = .ok (.getfield 7, 3) := by decide +kernel
theorem dX5_unpredictedSize_40 : decode cX5_unpredictedSize 40 = .ok (.aload_n 0, 1) := by decide +kernel
theorem dX5_unpredictedSize_41 : decode cX5_unpredictedSize 41 = .ok (.iload_n 2, 1) := by decide +kernel
theorem dX5_unpredictedSize_42 : decode cX5_unpredictedSize 42 = .ok (.invokevirtual 104, 3) := by decide +kernel
theorem dX5_unpredictedSize_45 : decode cX5_unpredictedSize 45 = .ok (.iaload, 1) := by decide +kernel
theorem dX5_unpredictedSize_46 : decode cX5_unpredictedSize 46 = .ok (.aload_n 0, 1) := by decide +kernel
theorem dX5_unpredictedSize_47 : decode cX5_unpredictedSize 47 = .ok (.getfield 17, 3) := by decide +kernel
theorem dX5_unpredictedSize_50 : decode cX5_unpredictedSize 50 = .ok (.iload_n 2, 1) := by decide +kernel
theorem dX5_unpredictedSize_51 : decode cX5_unpredictedSize 51 = .ok (.iaload, 1) := by decide +kernel
theorem dX5_unpredictedSize_52 : decode cX5_unpredictedSize 52 = .ok (.if_icmp .eq 7, 3) := by decide +kernel
theorem dX5_unpredictedSize_55 : decode cX5_unpredictedSize 55 = .ok (.iconst 1, 1) := by decide +kernel
theorem dX5_unpredictedSize_56 : decode cX5_unpredictedSize 56 = .ok (.goto 4, 3) := by decide +kernel
theorem dX5_unpredictedSize_59 : decode cX5_unpredictedSize 59 = .ok (.iconst 0, 1) := by decide +kernel
theorem dX5_unpredictedSize_60 : decode cX5_unpredictedSize 60 = .ok (.iadd, 1) := by decide +kernel
theorem dX5_unpredictedSize_61 : decode cX5_unpredictedSize 61 = .ok (.istore_n 1, 1) := by decide +kernel
theorem dX5_unpredictedSize_62 : decode cX5_unpredictedSize 62 = .ok (.iinc 2 1, 3) := by decide +kernel
theorem dX5_unpredictedSize_65 : decode cX5_unpredictedSize 65 = .ok (.goto (-50), 3) := by decide +kernel
theorem dX5_unpredictedSize_68 : decode cX5_unpredictedSize 68 = .ok (.iconst 3, 1) := by decide +kernel
theorem dX5_unpredictedSize_69 : decode cX5_unpredictedSize 69 = .ok (.aload_n 0, 1) := by decide +kernel
theorem dX5_unpredictedSize_70 : decode cX5_unpredictedSize 70 = .ok (.getfield 93, 3) := by decide +kernel
theorem dX5_unpredictedSize_73 : decode cX5_unpredictedSize 73 = .ok (.imul, 1) := by decide +kernel
theorem dX5_unpredictedSize_74 : decode cX5_unpredictedSize 74 = .ok (.aload_n 0, 1) := by decide +kernel
theorem dX5_unpredictedSize_75 : decode cX5_unpredictedSize 75 = .ok (.invokevirtual 116, 3) := by decide +kernel
theorem dX5_unpredictedSize_78 : decode cX5_unpredictedSize 78 = .ok (.iadd, 1) := by decide +kernel
theorem dX5_unpredictedSize_79 : decode cX5_unpredictedSize 79 = .ok (.iconst 2, 1) := by decide +kernel
theorem dX5_unpredictedSize_80 : decode cX5_unpredictedSize 80 = .ok (.iload_n 1, 1) := by decide +kernel
theorem dX5_unpredictedSize_81 : decode cX5_unpredictedSize 81 = .ok (.imul, 1) := by decide +kernel
theorem dX5_unpredictedSize_82 : decode cX5_unpredictedSize 82 = .ok (.iadd, 1) := by decide +kernel
theorem dX5_unpredictedSize_83 : decode cX5_unpredictedSize 83 = .ok (.ireturn, 1) := by decide +kernel
theorem dX5_isBefore_0 : decode cX5_isBefore 0 = .ok (.iload_n 1, 1) := by decide +kernel
theorem dX5_isBefore_1 : decode cX5_isBefore 1 = .ok (.iload_n 2, 1) := by decide +kernel
theorem dX5_isBefore_2 : decode cX5_isBefore 2 = .ok (.if_icmp .eq 51, 3) := by decide +kernel
theorem dX5_isBefore_5 : decode cX5_isBefore 5 = .ok (.aload_n 0, 1) := by decide +kernel
theorem dX5_isBefore_6 : decode cX5_isBefore 6 = .ok (.getfield 26, 3) := by decide +kernel
theorem dX5_isBefore_9 : decode cX5_isBefore 9 = .ok (.iload_n 2, 1) := by decide +kernel
theorem dX5_isBefore_10 : decode cX5_isBefore 10 = .ok (.iaload, 1) := by decide +kernel
theorem dX5_isBefore_11 : decode cX5_isBefore 11 = .ok (.aload_n 0, 1) := by decide +kernel
theorem dX5_isBefore_12 : decode cX5_isBefore 12 = .ok (.getfield 23, 3) := by decide +kernel
theorem dX5_isBefore_15 : decode cX5_isBefore 15 = .ok (.iload_n 1, 1) := by decide +kernel
theorem dX5_isBefore_16 : decode cX5_isBefore 16 = .ok (.iaload, 1) := by decide +kernel
theorem dX5_isBefore_17 : decode cX5_isBefore 17 = .ok (.aload_n 0, 1) := by decide +kernel
theorem dX5_isBefore_18 : decode cX5_isBefore 18 = .ok (.getfield 29, 3) := by decide +kernel
theorem dX5_isBefore_21 : decode cX5_isBefore 21 = .ok (.iload_n 1, 1) := by decide +kernel
theorem dX5_isBefore_22 : decode cX5_isBefore 22 = .ok (.iaload, 1) := by decide +kernel
theorem dX5_isBefore_23 : decode cX5_isBefore 23 = .ok (.iadd, 1) := by decide +kernel
theorem dX5_isBefore_24 : decode cX5_isBefore 24 = .ok (.if_icmp .ge 29, 3) := by decide +kernel
theorem dX5_isBefore_27 : decode cX5_isBefore 27 = .ok (.aload_n 0, 1) := by decide +kernel
theorem dX5_isBefore_28 : decode cX5_isBefore 28 = .ok (.getfield 23, 3) := by decide +kernel
theorem dX5_isBefore_31 : decode cX5_isBefore 31 = .ok (.iload_n 1, 1) := by decide +kernel
theorem dX5_isBefore_32 : decode cX5_isBefore 32 = .ok (.iaload, 1) := by decide +kernel
theorem dX5_isBefore_33 : decode cX5_isBefore 33 = .ok (.aload_n 0, 1) := by decide +kernel
theorem dX5_isBefore_34 : decode cX5_isBefore 34 = .ok (.getfield 26, 3) := by decide +kernel
theorem dX5_isBefore_37 : decode cX5_isBefore 37 = .ok (.iload_n 2, 1) := by decide +kernel
theorem dX5_isBefore_38 : decode cX5_isBefore 38 = .ok (.iaload, 1) := by decide +kernel
theorem dX5_isBefore_39 : decode cX5_isBefore 39 = .ok (.aload_n 0, 1) := by decide +kernel
theorem dX5_isBefore_40 : decode cX5_isBefore 40 = .ok (.getfield 29, 3) := by decide +kernel
theorem dX5_isBefore_43 : decode cX5_isBefore 43 = .ok (.iload_n 2, 1) := by decide +kernel
theorem dX5_isBefore_44 : decode cX5_isBefore 44 = .ok (.iaload, 1) := by decide +kernel
theorem dX5_isBefore_45 : decode cX5_isBefore 45 = .ok (.iadd, 1) := by decide +kernel
theorem dX5_isBefore_46 : decode cX5_isBefore 46 = .ok (.if_icmp .ge 7, 3) := by decide +kernel
theorem dX5_isBefore_49 : decode cX5_isBefore 49 = .ok (.iconst 1, 1) := by decide +kernel
theorem dX5_isBefore_50 : decode cX5_isBefore 50 = .ok (.goto 4, 3) := by decide +kernel
theorem dX5_isBefore_53 : decode cX5_isBefore 53 = .ok (.iconst 0, 1) := by decide +kernel
theorem dX5_isBefore_54 : decode cX5_isBefore 54 = .ok (.ireturn, 1) := by decide +kernel
set_option maxRecDepth 20000 in
theorem ggX5_isReady_X5_isBefore : GoodIn wsX5_isReady wsX5_isBefore := goodIn_r _ [7, 8, 9, 10, 11, 12, 13, 14, 15, 16, 17, 18, 19, 20, 21, 22, 23, 24, 25, 26, 27, 28, 29] (by decide +kernel) (by decide +kernel)
set_option maxRecDepth 20000 in
theorem gX5_isReady_X5_isBefore : GoodIn wsX5_isReady (wsV RX5 119 RX5 yX5_isBefore wsX5_isBefore) := goodIn_app (goodIn_of _ (by decide +kernel)) ggX5_isReady_X5_isBefore
theorem dX5_isReady_0 : decode cX5_isReady 0 = .ok (.iconst 0, 1) := by decide +kernel
theorem dX5_isReady_1 : decode cX5_isReady 1 = .ok (.istore_n 2, 1) := by decide +kernel
theorem dX5_isReady_2 : decode cX5_isReady 2 = .ok (.iload_n 2, 1) := by decide +kernel
theorem dX5_isReady_3 : decode cX5_isReady 3 = .ok (.aload_n 0, 1) := by decide +kernel
theorem dX5_isReady_4 : decode cX5_isReady 4 = .ok (.getfield 93, 3) := by decide +kernel
theorem dX5_isReady_7 : decode cX5_isReady 7 = .ok (.if_icmp .ge 29, 3) := by decide +kernel
theorem dX5_isReady_10 : decode cX5_isReady 10 = .ok (.aload_n 0, 1) := by decide +kernel
theorem dX5_isReady_11 : decode cX5_isReady 11 = .ok (.getfield 44, 3) := by decide +kernel
theorem dX5_isReady_14 : decode cX5_isReady 14 = .ok (.iload_n 2, 1) := by decide +kernel
theorem dX5_isReady_15 : decode cX5_isReady 15 = .ok (.iaload, 1) := by decide +kernel
theorem dX5_isReady_16 : decode cX5_isReady 16 = .ok (.ifCond .ne 14, 3) := by decide +kernel
theorem dX5_isReady_19 : decode cX5_isReady 19 = .ok (.aload_n 0, 1) := by decide +kernel
theorem dX5_isReady_20 : decode cX5_isReady 20 = .ok (.iload_n 2, 1) := by decide +kernel
theorem dX5_isReady_21 : decode cX5_isReady 21 = .ok (.iload_n 1, 1) := by decide +kernel
theorem dX5_isReady_22 : decode cX5_isReady 22 = .ok (.invokevirtual 119, 3) := by decide +kernel
theorem dX5_isReady_25 : decode cX5_isReady 25 = .ok (.ifCond .eq 5, 3) := by decide +kernel
theorem dX5_isReady_28 : decode cX5_isReady 28 = .ok (.iconst 0, 1) := by decide +kernel
theorem dX5_isReady_29 : decode cX5_isReady 29 = .ok (.ireturn, 1) := by decide +kernel
theorem dX5_isReady_30 : decode cX5_isReady 30 = .ok (.iinc 2 1, 3) := by decide +kernel
theorem dX5_isReady_33 : decode cX5_isReady 33 = .ok (.goto (-31), 3) := by decide +kernel
theorem dX5_isReady_36 : decode cX5_isReady 36 = .ok (.iconst 1, 1) := by decide +kernel
theorem dX5_isReady_37 : decode cX5_isReady 37 = .ok (.ireturn, 1) := by decide +kernel
set_option maxRecDepth 20000 in
theorem ggX5_firstReady_X5_isReady : GoodIn wsX5_firstReady wsX5_isReady := goodIn_r _ [7, 1, 2, 8, 9, 10, 6, 11, 12, 13, 14, 15, 16, 17, 18, 19, 20, 21, 22, 23, 24, 25, 26, 27, 28, 29, 30, 31, 32, 33] (by decide +kernel) (by decide +kernel)
set_option maxRecDepth 20000 in
theorem gX5_firstReady_X5_isReady : GoodIn wsX5_firstReady (wsV RX5 122 RX5 yX5_isReady wsX5_isReady) := goodIn_app (goodIn_of _ (by decide +kernel)) ggX5_firstReady_X5_isReady
theorem dX5_firstReady_0 : decode cX5_firstReady 0 = .ok (.iconst 0, 1) := by decide +kernel
theorem dX5_firstReady_1 : decode cX5_firstReady 1 = .ok (.istore_n 1, 1) := by decide +kernel
theorem dX5_firstReady_2 : decode cX5_firstReady 2 = .ok (.iload_n 1, 1) := by decide +kernel
theorem dX5_firstReady_3 : decode cX5_firstReady 3 = .ok (.aload_n 0, 1) := by decide +kernel
theorem dX5_firstReady_4 : decode cX5_firstReady 4 = .ok (.getfield 93, 3) := by decide +kernel
theorem dX5_firstReady_7 : decode cX5_firstReady 7 = .ok (.if_icmp .ge 28, 3) := by decide +kernel
theorem dX5_firstReady_10 : decode cX5_firstReady 10 = .ok (.aload_n 0, 1) := by decide +kernel
theorem dX5_firstReady_11 : decode cX5_firstReady 11 = .ok (.getfield 44, 3) := by decide +kernel
theorem dX5_firstReady_14 : decode cX5_firstReady 14 = .ok (.iload_n 1, 1) := by decide +kernel
theorem dX5_firstReady_15 : decode cX5_firstReady 15 = .ok (.iaload, 1) := by decide +kernel
theorem dX5_firstReady_16 : decode cX5_firstReady 16 = .ok (.ifCond .ne 13, 3) := by decide +kernel
theorem dX5_firstReady_19 : decode cX5_firstReady 19 = .ok (.aload_n 0, 1) := by decide +kernel
theorem dX5_firstReady_20 : decode cX5_firstReady 20 = .ok (.iload_n 1, 1) := by decide +kernel
theorem dX5_firstReady_21 : decode cX5_firstReady 21 = .ok (.invokevirtual 122, 3) := by decide +kernel
theorem dX5_firstReady_24 : decode cX5_firstReady 24 = .ok (.ifCond .eq 5, 3) := by decide +kernel
theorem dX5_firstReady_27 : decode cX5_firstReady 27 = .ok (.iload_n 1, 1) := by decide +kernel
theorem dX5_firstReady_28 : decode cX5_firstReady 28 = .ok (.ireturn, 1) := by decide +kernel
theorem dX5_firstReady_29 : decode cX5_firstReady 29 = .ok (.iinc 1 1, 3) := by decide +kernel
theorem dX5_firstReady_32 : decode cX5_firstReady 32 = .ok (.goto (-30), 3) := by decide +kernel
theorem dX5_firstReady_35 : decode cX5_firstReady 35 = .ok (.sipush (-10005), 3) := by decide +kernel
theorem dX5_firstReady_38 : decode cX5_firstReady 38 = .ok (.ireturn, 1) := by decide +kernel
theorem dX5_shortest_0 : decode cX5_shortest 0 = .ok (.sipush (-10005), 3) := by decide +kernel
theorem dX5_shortest_3 : decode cX5_shortest 3 = .ok (.istore_n 1, 1) := by decide +kernel
theorem dX5_shortest_4 : decode cX5_shortest 4 = .ok (.iconst 0, 1) := by decide +kernel
theorem dX5_shortest_5 : decode cX5_shortest 5 = .ok (.istore_n 2, 1) := by decide +kernel
theorem dX5_shortest_6 : decode cX5_shortest 6 = .ok (.iload_n 2, 1) := by decide +kernel
theorem dX5_shortest_7 : decode cX5_shortest 7 = .ok (.aload_n 0, 1) := by decide +kernel
theorem dX5_shortest_8 : decode cX5_shortest 8 = .ok (.getfield 93, 3) := by decide +kernel
theorem dX5_shortest_11 : decode cX5_shortest 11 = .ok (.if_icmp .ge 46, 3) := by decide +kernel
theorem dX5_shortest_14 : decode cX5_shortest 14 = .ok (.aload_n 0, 1) := by decide +kernel
theorem dX5_shortest_15 : decode cX5_shortest 15 = .ok (.getfield 44, 3) := by decide +kernel
theorem dX5_shortest_18 : decode cX5_shortest 18 = .ok (.iload_n 2, 1) := by decide +kernel
theorem dX5_shortest_19 : decode cX5_shortest 19 = .ok (.iaload, 1) := by decide +kernel
theorem dX5_shortest_20 : decode cX5_shortest 20 = .ok (.ifCond .ne 29, 3) := by decide +kernel
theorem dX5_shortest_23 : decode cX5_shortest 23 = .ok (.iload_n 1, 1) := by decide +kernel
theorem dX5_shortest_24 : decode cX5_shortest 24 = .ok (.sipush (-10005), 3) := by decide +kernel
theorem dX5_shortest_27 : decode cX5_shortest 27 = .ok (.if_icmp .eq 18, 3) := by decide +kernel
theorem dX5_shortest_30 : decode cX5_shortest 30 = .ok (.aload_n 0, 1) := by decide +kernel
theorem dX5_shortest_31 : decode cX5_shortest 31 = .ok (.getfield 29, 3) := by decide +kernel
theorem dX5_shortest_34 : decode cX5_shortest 34 = .ok (.iload_n 2, 1) := by decide +kernel
theorem dX5_shortest_35 : decode cX5_shortest 35 = .ok (.iaload, 1) := by decide +kernel
theorem dX5_shortest_36 : decode cX5_shortest 36 = .ok (.aload_n 0, 1) := by decide +kernel
theorem dX5_shortest_37 : decode cX5_shortest 37 = .ok (.getfield 29, 3) := by decide +kernel
theorem dX5_shortest_40 : decode cX5_shortest 40 = .ok (.iload_n 1, 1) := by decide +kernel
theorem dX5_shortest_41 : decode cX5_shortest 41 = .ok (.iaload, 1) := by decide +kernel
theorem dX5_shortest_42 : decode cX5_shortest 42 = .ok (.if_icmp .ge 7, 3) := by decide +kernel
theorem dX5_shortest_45 : decode cX5_shortest 45 = .ok (.iload_n 2, 1) := by decide +kernel
theorem dX5_shortest_46 : decode cX5_shortest 46 = .ok (.goto 4, 3) := by decide +kernel
theorem dX5_shortest_49 : decode cX5_shortest 49 = .ok (.iload_n 1, 1) := by decide +kernel
theorem dX5_shortest_50 : decode cX5_shortest 50 = .ok (.istore_n 1, 1) := by decide +kernel
theorem dX5_shortest_51 : decode cX5_shortest 51 = .ok (.iinc 2 1, 3) := by decide +kernel
theorem dX5_shortest_54 : decode cX5_shortest 54 = .ok (.goto (-48), 3) := by decide +kernel
theorem dX5_shortest_57 : decode cX5_shortest 57 = .ok (.iload_n 1, 1) := by decide +kernel
theorem dX5_shortest_58 : decode cX5_shortest 58 = .ok (.ireturn, 1) := by decide +kernel
set_option maxRecDepth 20000 in
theorem ggX5_orders_X5_firstReady : GoodIn wsX5_orders wsX5_firstReady := goodIn_r _ [9, 2, 3, 10, 11, 12, 8, 13, 14, 15, 16, 17, 18, 19, 20, 25, 26, 27, 28, 29, 30, 31, 32, 33, 34, 35, 36, 37, 38, 39, 40, 41, 42, 43] (by decide +kernel) (by decide +kernel)
set_option maxRecDepth 20000 in
theorem gX5_orders_X5_firstReady : GoodIn wsX5_orders (wsV RX5 128 RX5 yX5_firstReady wsX5_firstReady) := goodIn_app (goodIn_of _ (by decide +kernel)) ggX5_orders_X5_firstReady
set_option maxRecDepth 20000 in
theorem ggX5_orders_X5_shortest : GoodIn wsX5_orders wsX5_shortest := goodIn_r _ [24, 2, 3, 20, 25, 26, 27, 28, 29, 30, 31, 32, 33, 34, 35, 36, 37, 38, 39, 40, 41, 42, 43] (by decide +kernel) (by decide +kernel)
set_option maxRecDepth 20000 in
theorem gX5_orders_X5_shortest : GoodIn wsX5_orders (wsV RX5 131 RX5 yX5_shortest wsX5_shortest) := goodIn_app (goodIn_of _ (by decide +kernel)) ggX5_orders_X5_shortest
theorem dX5_orders_0 : decode cX5_orders 0 = .ok (.aload_n 0, 1) := by decide +kernel
theorem dX5_orders_1 : decode cX5_orders 1 = .ok (.iconst 0, 1) := by decide +kernel
theorem dX5_orders_2 : decode cX5_orders 2 = .ok (.putfield 125, 3) := by decide +kernel
theorem dX5_orders_5 : decode cX5_orders 5 = .ok (.iconst 0, 1) := by decide +kernel
theorem dX5_orders_6 : decode cX5_orders 6 = .ok (.istore_n 1, 1) := by decide +kernel
theorem dX5_orders_7 : decode cX5_orders 7 = .ok (.iload_n 1, 1) := by decide +kernel
theorem dX5_orders_8 : decode cX5_orders 8 = .ok (.aload_n 0, 1) := by decide +kernel
theorem dX5_orders_9 : decode cX5_orders 9 = .ok (.getfield 93, 3) := by decide +kernel
theorem dX5_orders_12 : decode cX5_orders 12 = .ok (.if_icmp .ge 16, 3) := by decide +kernel
theorem dX5_orders_15 : decode cX5_orders 15 = .ok (.aload_n 0, 1) := by decide +kernel
theorem dX5_orders_16 : decode cX5_orders 16 = .ok (.getfield 44, 3) := by decide +kernel
theorem dX5_orders_19 : decode cX5_orders 19 = .ok (.iload_n 1, 1) := by decide +kernel
theorem dX5_orders_20 : decode cX5_orders 20 = .ok (.iconst 0, 1) := by decide +kernel
theorem dX5_orders_21 : decode cX5_orders 21 = .ok (.iastore, 1) := by decide +kernel
theorem dX5_orders_22 : decode cX5_orders 22 = .ok (.iinc 1 1, 3) := by decide +kernel
theorem dX5_orders_25 : decode cX5_orders 25 = .ok (.goto (-18), 3) := by decide +kernel
theorem dX5_orders_28 : decode cX5_orders 28 = .ok (.iconst 0, 1) := by decide +kernel
theorem dX5_orders_29 : decode cX5_orders 29 = .ok (.istore_n 1, 1) := by decide +kernel
theorem dX5_orders_30 : decode cX5_orders 30 = .ok (.iload_n 1, 1) := by decide +kernel
theorem dX5_orders_31 : decode cX5_orders 31 = .ok (.aload_n 0, 1) := by decide +kernel
theorem dX5_orders_32 : decode cX5_orders 32 = .ok (.getfield 93, 3) := by decide +kernel
theorem dX5_orders_35 : decode cX5_orders 35 = .ok (.if_icmp .ge 61, 3) := by decide +kernel
theorem dX5_orders_38 : decode cX5_orders 38 = .ok (.aload_n 0, 1) := by decide +kernel
theorem dX5_orders_39 : decode cX5_orders 39 = .ok (.invokevirtual 128, 3) := by decide +kernel
theorem dX5_orders_42 : decode cX5_orders 42 = .ok (.istore_n 2, 1) := by decide +kernel
theorem dX5_orders_43 : decode cX5_orders 43 = .ok (.iload_n 2, 1) := by decide +kernel
theorem dX5_orders_44 : decode cX5_orders 44 = .ok (.sipush (-10005), 3) := by decide +kernel
theorem dX5_orders_47 : decode cX5_orders 47 = .ok (.if_icmp .ne 16, 3) := by decide +kernel
theorem dX5_orders_50 : decode cX5_orders 50 = .ok (.aload_n 0, 1) := by decide +kernel
theorem dX5_orders_51 : decode cX5_orders 51 = .ok (.getfield 44, 3) := by decide +kernel
theorem dX5_orders_54 : decode cX5_orders 54 = .ok (.aload_n 0, 1) := by decide +kernel
theorem dX5_orders_55 : decode cX5_orders 55 = .ok (.invokevirtual 131, 3) := by decide +kernel
theorem dX5_orders_58 : decode cX5_orders 58 = .ok (.iconst 2, 1) := by decide +kernel
theorem dX5_orders_59 : decode cX5_orders 59 = .ok (.iastore, 1) := by decide +kernel
theorem dX5_orders_60 : decode cX5_orders 60 = .ok (.goto 30, 3) := by decide +kernel
theorem dX5_orders_63 : decode cX5_orders 63 = .ok (.aload_n 0, 1) := by decide +kernel
theorem dX5_orders_64 : decode cX5_orders 64 = .ok (.getfield 44, 3) := by decide +kernel
theorem dX5_orders_67 : decode cX5_orders 67 = .ok (.iload_n 2, 1) := by decide +kernel
theorem dX5_orders_68 : decode cX5_orders 68 = .ok (.iconst 1, 1) := by decide +kernel
theorem dX5_orders_69 : decode cX5_orders 69 = .ok (.iastore, 1) := by decide +kernel
theorem dX5_orders_70 : decode cX5_orders 70 = .ok (.aload_n 0, 1) := by decide +kernel
theorem dX5_orders_71 : decode cX5_orders 71 = .ok (.getfield 41, 3) := by decide +kernel
theorem dX5_orders_74 : decode cX5_orders 74 = .ok (.aload_n 0, 1) := by decide +kernel
theorem dX5_orders_75 : decode cX5_orders 75 = .ok (.getfield 125, 3) := by decide +kernel
theorem dX5_orders_78 : decode cX5_orders 78 = .ok (.iload_n 2, 1) := by decide +kernel
theorem dX5_orders_79 : decode cX5_orders 79 = .ok (.iastore, 1) := by decide +kernel
theorem dX5_orders_80 : decode cX5_orders 80 = .ok (.aload_n 0, 1) := by decide +kernel
theorem dX5_orders_81 : decode cX5_orders 81 = .ok (.dup, 1) := by decide +kernel
theorem dX5_orders_82 : decode cX5_orders 82 = .ok (.getfield 125, 3) := by decide +kernel
theorem dX5_orders_85 : decode cX5_orders 85 = .ok (.iconst 1, 1) := by decide +kernel
theorem dX5_orders_86 : decode cX5_orders 86 = .ok (.iadd, 1) := by decide +kernel
theorem dX5_orders_87 : decode cX5_orders 87 = .ok (.putfield 125, 3) := by decide +kernel
theorem dX5_orders_90 : decode cX5_orders 90 = .ok (.iinc 1 1, 3) := by decide +kernel
theorem dX5_orders_93 : decode cX5_orders 93 = .ok (.goto (-63), 3) := by decide +kernel
theorem dX5_orders_96 : decode cX5_orders 96 = .ok (.return_, 1) := by decide +kernel
theorem dX5_copyCount_0 : decode cX5_copyCount 0 = .ok (.aload_n 0, 1) := by decide +kernel
theorem dX5_copyCount_1 : decode cX5_copyCount 1 = .ok (.getfield 53, 3) := by decide +kernel
theorem dX5_copyCount_4 : decode cX5_copyCount 4 = .ok (.ifCond .eq 10, 3) := by decide +kernel
theorem dX5_copyCount_7 : decode cX5_copyCount 7 = .ok (.aload_n 0, 1) := by decide +kernel
theorem dX5_copyCount_8 : decode cX5_copyCount 8 = .ok (.getfield 125, 3) := by decide +kernel
theorem dX5_copyCount_11 : decode cX5_copyCount 11 = .ok (.goto 6, 3) := by decide +kernel
theorem dX5_copyCount_14 : decode cX5_copyCount 14 = .ok (.sipush (-10004), 3) := by decide +kernel
theorem dX5_copyCount_17 : decode cX5_copyCount 17 = .ok (.ireturn, 1) := by decide +kernel
set_option maxRecDepth 20000 in
theorem ggX5_copyStep_X5_within : GoodIn wsX5_copyStep wsX5_within := goodIn_r _ [7] (by decide +kernel) (by decide +kernel)
set_option maxRecDepth 20000 in
theorem gX5_copyStep_X5_within : GoodIn wsX5_copyStep (va_wsS RX5 61 yX5_within wsX5_within) := goodIn_app (goodIn_of _ (by decide +kernel)) ggX5_copyStep_X5_within
theorem dX5_copyStep_0 : decode cX5_copyStep 0 = .ok (.aload_n 0, 1) := by decide +kernel
theorem dX5_copyStep_1 : decode cX5_copyStep 1 = .ok (.getfield 53, 3) := by decide +kernel
theorem dX5_copyStep_4 : decode cX5_copyStep 4 = .ok (.ifCond .ne 7, 3) := by decide +kernel
theorem dX5_copyStep_7 : decode cX5_copyStep 7 = .ok (.sipush (-10004), 3) := by decide +kernel
theorem dX5_copyStep_10 : decode cX5_copyStep 10 = .ok (.ireturn, 1) := by decide +kernel
theorem dX5_copyStep_11 : decode cX5_copyStep 11 = .ok (.iload_n 1, 1) := by decide +kernel
theorem dX5_copyStep_12 : decode cX5_copyStep 12 = .ok (.iconst 0, 1) := by decide +kernel
theorem dX5_copyStep_13 : decode cX5_copyStep 13 = .ok (.aload_n 0, 1) := by decide +kernel
theorem dX5_copyStep_14 : decode cX5_copyStep 14 = .ok (.getfield 125, 3) := by decide +kernel
theorem dX5_copyStep_17 : decode cX5_copyStep 17 = .ok (.iconst 1, 1) := by decide +kernel
theorem dX5_copyStep_18 : decode cX5_copyStep 18 = .ok (.isub, 1) := by decide +kernel
theorem dX5_copyStep_19 : decode cX5_copyStep 19 = .ok (.invokestatic 61, 3) := by decide +kernel
theorem dX5_copyStep_22 : decode cX5_copyStep 22 = .ok (.ifCond .eq 12, 3) := by decide +kernel
theorem dX5_copyStep_25 : decode cX5_copyStep 25 = .ok (.aload_n 0, 1) := by decide +kernel
theorem dX5_copyStep_26 : decode cX5_copyStep 26 = .ok (.getfield 41, 3) := by decide +kernel
theorem dX5_copyStep_29 : decode cX5_copyStep 29 = .ok (.iload_n 1, 1) := by decide +kernel
theorem dX5_copyStep_30 : decode cX5_copyStep 30 = .ok (.iaload, 1) := by decide +kernel
theorem dX5_copyStep_31 : decode cX5_copyStep 31 = .ok (.goto 6, 3) := by decide +kernel
theorem dX5_copyStep_34 : decode cX5_copyStep 34 = .ok (.sipush (-10003), 3) := by decide +kernel
theorem dX5_copyStep_37 : decode cX5_copyStep 37 = .ok (.ireturn, 1) := by decide +kernel
set_option maxRecDepth 20000 in
theorem ggX5_isDropped_X5_within : GoodIn wsX5_isDropped wsX5_within := goodIn_r _ [7] (by decide +kernel) (by decide +kernel)
set_option maxRecDepth 20000 in
theorem gX5_isDropped_X5_within : GoodIn wsX5_isDropped (va_wsS RX5 61 yX5_within wsX5_within) := goodIn_app (goodIn_of _ (by decide +kernel)) ggX5_isDropped_X5_within
theorem dX5_isDropped_0 : decode cX5_isDropped 0 = .ok (.aload_n 0, 1) := by decide +kernel
theorem dX5_isDropped_1 : decode cX5_isDropped 1 = .ok (.getfield 53, 3) := by decide +kernel
theorem dX5_isDropped_4 : decode cX5_isDropped 4 = .ok (.ifCond .ne 7, 3) := by decide +kernel
theorem dX5_isDropped_7 : decode cX5_isDropped 7 = .ok (.sipush (-10004), 3) := by decide +kernel
theorem dX5_isDropped_10 : decode cX5_isDropped 10 = .ok (.ireturn, 1) := by decide +kernel
theorem dX5_isDropped_11 : decode cX5_isDropped 11 = .ok (.iload_n 1, 1) := by decide +kernel
theorem dX5_isDropped_12 : decode cX5_isDropped 12 = .ok (.iconst 0, 1) := by decide +kernel
theorem dX5_isDropped_13 : decode cX5_isDropped 13 = .ok (.aload_n 0, 1) := by decide +kernel
theorem dX5_isDropped_14 : decode cX5_isDropped 14 = .ok (.getfield 93, 3) := by decide +kernel
theorem dX5_isDropped_17 : decode cX5_isDropped 17 = .ok (.iconst 1, 1) := by decide +kernel
theorem dX5_isDropped_18 : decode cX5_isDropped 18 = .ok (.isub, 1) := by decide +kernel
theorem dX5_isDropped_19 : decode cX5_isDropped 19 = .ok (.invokestatic 61, 3) := by decide +kernel
theorem dX5_isDropped_22 : decode cX5_isDropped 22 = .ok (.ifCond .ne 7, 3) := by decide +kernel
theorem dX5_isDropped_25 : decode cX5_isDropped 25 = .ok (.sipush (-10003), 3) := by decide +kernel
theorem dX5_isDropped_28 : decode cX5_isDropped 28 = .ok (.ireturn, 1) := by decide +kernel
theorem dX5_isDropped_29 : decode cX5_isDropped 29 = .ok (.aload_n 0, 1) := by decide +kernel
theorem dX5_isDropped_30 : decode cX5_isDropped 30 = .ok (.getfield 44, 3) := by decide +kernel
theorem dX5_isDropped_33 : decode cX5_isDropped 33 = .ok (.iload_n 1, 1) := by decide +kernel
theorem dX5_isDropped_34 : decode cX5_isDropped 34 = .ok (.iaload, 1) := by decide +kernel
theorem dX5_isDropped_35 : decode cX5_isDropped 35 = .ok (.iconst 2, 1) := by decide +kernel
theorem dX5_isDropped_36 : decode cX5_isDropped 36 = .ok (.if_icmp .ne 7, 3) := by decide +kernel
theorem dX5_isDropped_39 : decode cX5_isDropped 39 = .ok (.iconst 1, 1) := by decide +kernel
theorem dX5_isDropped_40 : decode cX5_isDropped 40 = .ok (.goto 4, 3) := by decide +kernel
theorem dX5_isDropped_43 : decode cX5_isDropped 43 = .ok (.iconst 0, 1) := by decide +kernel
theorem dX5_isDropped_44 : decode cX5_isDropped 44 = .ok (.ireturn, 1) := by decide +kernel
theorem dX5_isCopied_0 : decode cX5_isCopied 0 = .ok (.aload_n 0, 1) := by decide +kernel
theorem dX5_isCopied_1 : decode cX5_isCopied 1 = .ok (.getfield 32, 3) := by decide +kernel
theorem dX5_isCopied_4 : decode cX5_isCopied 4 = .ok (.iload_n 1, 1) := by decide +kernel
theorem dX5_isCopied_5 : decode cX5_isCopied 5 = .ok (.iaload, 1) := by decide +kernel
theorem dX5_isCopied_6 : decode cX5_isCopied 6 = .ok (.sipush (-10005), 3) := by decide +kernel
theorem dX5_isCopied_9 : decode cX5_isCopied 9 = .ok (.if_icmp .eq 22, 3) := by decide +kernel
theorem dX5_isCopied_12 : decode cX5_isCopied 12 = .ok (.aload_n 0, 1) := by decide +kernel
theorem dX5_isCopied_13 : decode cX5_isCopied 13 = .ok (.getfield 44, 3) := by decide +kernel
theorem dX5_isCopied_16 : decode cX5_isCopied 16 = .ok (.aload_n 0, 1) := by decide +kernel
theorem dX5_isCopied_17 : decode cX5_isCopied 17 = .ok (.getfield 32, 3) := by decide +kernel
theorem dX5_isCopied_20 : decode cX5_isCopied 20 = .ok (.iload_n 1, 1) := by decide +kernel
theorem dX5_isCopied_21 : decode cX5_isCopied 21 = .ok (.iaload, 1) := by decide +kernel
theorem dX5_isCopied_22 : decode cX5_isCopied 22 = .ok (.iaload, 1) := by decide +kernel
theorem dX5_isCopied_23 : decode cX5_isCopied 23 = .ok (.iconst 1, 1) := by decide +kernel
theorem dX5_isCopied_24 : decode cX5_isCopied 24 = .ok (.if_icmp .ne 7, 3) := by decide +kernel
theorem dX5_isCopied_27 : decode cX5_isCopied 27 = .ok (.iconst 1, 1) := by decide +kernel
theorem dX5_isCopied_28 : decode cX5_isCopied 28 = .ok (.goto 4, 3) := by decide +kernel
theorem dX5_isCopied_31 : decode cX5_isCopied 31 = .ok (.iconst 0, 1) := by decide +kernel
theorem dX5_isCopied_32 : decode cX5_isCopied 32 = .ok (.ireturn, 1) := by decide +kernel
set_option maxRecDepth 20000 in
theorem ggX5_inPlaceSize_X5_isCopied : GoodIn wsX5_inPlaceSize wsX5_isCopied := goodIn_r _ [8, 9, 10, 33, 34, 35, 36, 37, 38, 39, 40, 41, 42, 43, 44, 45, 46, 47, 48, 49, 50, 51] (by decide +kernel) (by decide +kernel)
set_option maxRecDepth 20000 in
theorem gX5_inPlaceSize_X5_isCopied : GoodIn wsX5_inPlaceSize (wsV RX5 134 RX5 yX5_isCopied wsX5_isCopied) := goodIn_app (goodIn_of _ (by decide +kernel)) ggX5_inPlaceSize_X5_isCopied
set_option maxRecDepth 20000 in
theorem ggX5_inPlaceSize_X5_isCorrected : GoodIn wsX5_inPlaceSize wsX5_isCorrected := goodIn_r _ [14, 9, 15, 16, 17, 18, 7, 19, 20, 21, 22, 23, 24, 25, 26, 27, 28, 29, 30, 31, 32, 33, 34, 35, 36, 37, 38, 39, 40, 41, 42, 43, 44, 45, 46, 47, 48, 49, 50, 51] (by decide +kernel) (by decide +kernel)
set_option maxRecDepth 20000 in
theorem gX5_inPlaceSize_X5_isCorrected : GoodIn wsX5_inPlaceSize (wsV RX5 110 RX5 yX5_isCorrected wsX5_isCorrected) := goodIn_app (goodIn_of _ (by decide +kernel)) ggX5_inPlaceSize_X5_isCorrected
theorem dX5_inPlaceSize_0 : decode cX5_inPlaceSize 0 = .ok (.aload_n 0, 1) := by decide +kernel
end
section
theorem dX5_inPlaceSize_1 : decode cX5_inPlaceSize 1 = .ok (.getfield 53, 3) := by decide +kernel
theorem dX5_inPlaceSize_4 : decode cX5_inPlaceSize 4 = .ok (.ifCond .ne 7, 3) := by decide +kernel
theorem dX5_inPlaceSize_7 : decode cX5_inPlaceSize 7 = .ok (.sipush (-10004), 3) := by decide +kernel
theorem dX5_inPlaceSize_10 : decode cX5_inPlaceSize 10 = .ok (.ireturn, 1) := by decide +kernel
theorem dX5_inPlaceSize_11 : decode cX5_inPlaceSize 11 = .ok (.iconst 3, 1) := by decide +kernel
theorem dX5_inPlaceSize_12 : decode cX5_inPlaceSize 12 = .ok (.aload_n 0, 1) := by decide +kernel
theorem dX5_inPlaceSize_13 : decode cX5_inPlaceSize 13 = .ok (.getfield 125, 3) := by decide +kernel
theorem dX5_inPlaceSize_16 : decode cX5_inPlaceSize 16 = .ok (.imul, 1) := by decide +kernel
theorem dX5_inPlaceSize_17 : decode cX5_inPlaceSize 17 = .ok (.istore_n 1, 1) := by decide +kernel
theorem dX5_inPlaceSize_18 : decode cX5_inPlaceSize 18 = .ok (.iconst 0, 1) := by decide +kernel
theorem dX5_inPlaceSize_19 : decode cX5_inPlaceSize 19 = .ok (.istore_n 2, 1) := by decide +kernel
theorem dX5_inPlaceSize_20 : decode cX5_inPlaceSize 20 = .ok (.iload_n 2, 1) := by decide +kernel
theorem dX5_inPlaceSize_21 : decode cX5_inPlaceSize 21 = .ok (.aload_n 0, 1) := by decide +kernel
theorem dX5_inPlaceSize_22 : decode cX5_inPlaceSize 22 = .ok (.getfield 57, 3) := by decide +kernel
theorem dX5_inPlaceSize_25 : decode cX5_inPlaceSize 25 = .ok (.if_icmp .ge 37, 3) := by decide +kernel
theorem dX5_inPlaceSize_28 : decode cX5_inPlaceSize 28 = .ok (.iload_n 1, 1) := by decide +kernel
theorem dX5_inPlaceSize_29 : decode cX5_inPlaceSize 29 = .ok (.aload_n 0, 1) := by decide +kernel
theorem dX5_inPlaceSize_30 : decode cX5_inPlaceSize 30 = .ok (.iload_n 2, 1) := by decide +kernel
theorem dX5_inPlaceSize_31 : decode cX5_inPlaceSize 31 = .ok (.invokevirtual 134, 3) := by decide +kernel
theorem dX5_inPlaceSize_34 : decode cX5_inPlaceSize 34 = .ok (.ifCond .ne 7, 3) := by decide +kernel
theorem dX5_inPlaceSize_37 : decode cX5_inPlaceSize 37 = .ok (.iconst 1, 1) := by decide +kernel
theorem dX5_inPlaceSize_38 : decode cX5_inPlaceSize 38 = .ok (.goto 16, 3) := by decide +kernel
theorem dX5_inPlaceSize_41 : decode cX5_inPlaceSize 41 = .ok (.aload_n 0, 1) := by decide +kernel
theorem dX5_inPlaceSize_42 : decode cX5_inPlaceSize 42 = .ok (.iload_n 2, 1) := by decide +kernel
theorem dX5_inPlaceSize_43 : decode cX5_inPlaceSize 43 = .ok (.invokevirtual 110, 3) := by decide +kernel
theorem dX5_inPlaceSize_46 : decode cX5_inPlaceSize 46 = .ok (.ifCond .eq 7, 3) := by decide +kernel
theorem dX5_inPlaceSize_49 : decode cX5_inPlaceSize 49 = .ok (.iconst 2, 1) := by decide +kernel
theorem dX5_inPlaceSize_50 : decode cX5_inPlaceSize 50 = .ok (.goto 4, 3) := by decide +kernel
theorem dX5_inPlaceSize_53 : decode cX5_inPlaceSize 53 = .ok (.iconst 0, 1) := by decide +kernel
theorem dX5_inPlaceSize_54 : decode cX5_inPlaceSize 54 = .ok (.iadd, 1) := by decide +kernel
theorem dX5_inPlaceSize_55 : decode cX5_inPlaceSize 55 = .ok (.istore_n 1, 1) := by decide +kernel
theorem dX5_inPlaceSize_56 : decode cX5_inPlaceSize 56 = .ok (.iinc 2 1, 3) := by decide +kernel
theorem dX5_inPlaceSize_59 : decode cX5_inPlaceSize 59 = .ok (.goto (-39), 3) := by decide +kernel
theorem dX5_inPlaceSize_62 : decode cX5_inPlaceSize 62 = .ok (.iload_n 1, 1) := by decide +kernel
theorem dX5_inPlaceSize_63 : decode cX5_inPlaceSize 63 = .ok (.ireturn, 1) := by decide +kernel
theorem dX5_plays_0 : decode cX5_plays 0 = .ok (.iconst 0, 1) := by decide +kernel
theorem dX5_plays_1 : decode cX5_plays 1 = .ok (.istore_n 2, 1) := by decide +kernel
theorem dX5_plays_2 : decode cX5_plays 2 = .ok (.iload_n 2, 1) := by decide +kernel
theorem dX5_plays_3 : decode cX5_plays 3 = .ok (.bipush 48, 2) := by decide +kernel
theorem dX5_plays_5 : decode cX5_plays 5 = .ok (.if_icmp .ge 33, 3) := by decide +kernel
theorem dX5_plays_8 : decode cX5_plays 8 = .ok (.aload_n 0, 1) := by decide +kernel
theorem dX5_plays_9 : decode cX5_plays 9 = .ok (.getfield 47, 3) := by decide +kernel
theorem dX5_plays_12 : decode cX5_plays 12 = .ok (.iload_n 2, 1) := by decide +kernel
theorem dX5_plays_13 : decode cX5_plays 13 = .ok (.iload_n 2, 1) := by decide +kernel
theorem dX5_plays_14 : decode cX5_plays 14 = .ok (.aload_n 0, 1) := by decide +kernel
theorem dX5_plays_15 : decode cX5_plays 15 = .ok (.getfield 65, 3) := by decide +kernel
theorem dX5_plays_18 : decode cX5_plays 18 = .ok (.if_icmp .ge 12, 3) := by decide +kernel
theorem dX5_plays_21 : decode cX5_plays 21 = .ok (.aload_n 0, 1) := by decide +kernel
theorem dX5_plays_22 : decode cX5_plays 22 = .ok (.getfield 7, 3) := by decide +kernel
theorem dX5_plays_25 : decode cX5_plays 25 = .ok (.iload_n 2, 1) := by decide +kernel
theorem dX5_plays_26 : decode cX5_plays 26 = .ok (.iaload, 1) := by decide +kernel
theorem dX5_plays_27 : decode cX5_plays 27 = .ok (.goto 4, 3) := by decide +kernel
theorem dX5_plays_30 : decode cX5_plays 30 = .ok (.iconst 0, 1) := by decide +kernel
theorem dX5_plays_31 : decode cX5_plays 31 = .ok (.iastore, 1) := by decide +kernel
theorem dX5_plays_32 : decode cX5_plays 32 = .ok (.iinc 2 1, 3) := by decide +kernel
theorem dX5_plays_35 : decode cX5_plays 35 = .ok (.goto (-33), 3) := by decide +kernel
theorem dX5_plays_38 : decode cX5_plays 38 = .ok (.iconst 0, 1) := by decide +kernel
theorem dX5_plays_39 : decode cX5_plays 39 = .ok (.istore_n 2, 1) := by decide +kernel
theorem dX5_plays_40 : decode cX5_plays 40 = .ok (.iload_n 2, 1) := by decide +kernel
theorem dX5_plays_41 : decode cX5_plays 41 = .ok (.iload_n 1, 1) := by decide +kernel
theorem dX5_plays_42 : decode cX5_plays 42 = .ok (.if_icmp .ge 98, 3) := by decide +kernel
theorem dX5_plays_45 : decode cX5_plays 45 = .ok (.aload_n 0, 1) := by decide +kernel
theorem dX5_plays_46 : decode cX5_plays 46 = .ok (.getfield 41, 3) := by decide +kernel
theorem dX5_plays_49 : decode cX5_plays 49 = .ok (.iload_n 2, 1) := by decide +kernel
theorem dX5_plays_50 : decode cX5_plays 50 = .ok (.iaload, 1) := by decide +kernel
theorem dX5_plays_51 : decode cX5_plays 51 = .ok (.istore_n 3, 1) := by decide +kernel
theorem dX5_plays_52 : decode cX5_plays 52 = .ok (.iconst 0, 1) := by decide +kernel
theorem dX5_plays_53 : decode cX5_plays 53 = .ok (.istore 4, 2) := by decide +kernel
theorem dX5_plays_55 : decode cX5_plays 55 = .ok (.iload 4, 2) := by decide +kernel
theorem dX5_plays_57 : decode cX5_plays 57 = .ok (.aload_n 0, 1) := by decide +kernel
theorem dX5_plays_58 : decode cX5_plays 58 = .ok (.getfield 29, 3) := by decide +kernel
theorem dX5_plays_61 : decode cX5_plays 61 = .ok (.iload_n 3, 1) := by decide +kernel
theorem dX5_plays_62 : decode cX5_plays 62 = .ok (.iaload, 1) := by decide +kernel
theorem dX5_plays_63 : decode cX5_plays 63 = .ok (.if_icmp .ge 30, 3) := by decide +kernel
theorem dX5_plays_66 : decode cX5_plays 66 = .ok (.aload_n 0, 1) := by decide +kernel
theorem dX5_plays_67 : decode cX5_plays 67 = .ok (.getfield 50, 3) := by decide +kernel
theorem dX5_plays_70 : decode cX5_plays 70 = .ok (.iload 4, 2) := by decide +kernel
theorem dX5_plays_72 : decode cX5_plays 72 = .ok (.aload_n 0, 1) := by decide +kernel
theorem dX5_plays_73 : decode cX5_plays 73 = .ok (.getfield 47, 3) := by decide +kernel
theorem dX5_plays_76 : decode cX5_plays 76 = .ok (.aload_n 0, 1) := by decide +kernel
theorem dX5_plays_77 : decode cX5_plays 77 = .ok (.getfield 23, 3) := by decide +kernel
theorem dX5_plays_80 : decode cX5_plays 80 = .ok (.iload_n 3, 1) := by decide +kernel
theorem dX5_plays_81 : decode cX5_plays 81 = .ok (.iaload, 1) := by decide +kernel
theorem dX5_plays_82 : decode cX5_plays 82 = .ok (.iload 4, 2) := by decide +kernel
theorem dX5_plays_84 : decode cX5_plays 84 = .ok (.iadd, 1) := by decide +kernel
theorem dX5_plays_85 : decode cX5_plays 85 = .ok (.iaload, 1) := by decide +kernel
theorem dX5_plays_86 : decode cX5_plays 86 = .ok (.iastore, 1) := by decide +kernel
theorem dX5_plays_87 : decode cX5_plays 87 = .ok (.iinc 4 1, 3) := by decide +kernel
theorem dX5_plays_90 : decode cX5_plays 90 = .ok (.goto (-35), 3) := by decide +kernel
theorem dX5_plays_93 : decode cX5_plays 93 = .ok (.iconst 0, 1) := by decide +kernel
theorem dX5_plays_94 : decode cX5_plays 94 = .ok (.istore 4, 2) := by decide +kernel
theorem dX5_plays_96 : decode cX5_plays 96 = .ok (.iload 4, 2) := by decide +kernel
theorem dX5_plays_98 : decode cX5_plays 98 = .ok (.aload_n 0, 1) := by decide +kernel
theorem dX5_plays_99 : decode cX5_plays 99 = .ok (.getfield 29, 3) := by decide +kernel
theorem dX5_plays_102 : decode cX5_plays 102 = .ok (.iload_n 3, 1) := by decide +kernel
theorem dX5_plays_103 : decode cX5_plays 103 = .ok (.iaload, 1) := by decide +kernel
theorem dX5_plays_104 : decode cX5_plays 104 = .ok (.if_icmp .ge 30, 3) := by decide +kernel
theorem dX5_plays_107 : decode cX5_plays 107 = .ok (.aload_n 0, 1) := by decide +kernel
theorem dX5_plays_108 : decode cX5_plays 108 = .ok (.getfield 47, 3) := by decide +kernel
theorem dX5_plays_111 : decode cX5_plays 111 = .ok (.aload_n 0, 1) := by decide +kernel
theorem dX5_plays_112 : decode cX5_plays 112 = .ok (.getfield 26, 3) := by decide +kernel
theorem dX5_plays_115 : decode cX5_plays 115 = .ok (.iload_n 3, 1) := by decide +kernel
theorem dX5_plays_116 : decode cX5_plays 116 = .ok (.iaload, 1) := by decide +kernel
theorem dX5_plays_117 : decode cX5_plays 117 = .ok (.iload 4, 2) := by decide +kernel
theorem dX5_plays_119 : decode cX5_plays 119 = .ok (.iadd, 1) := by decide +kernel
theorem dX5_plays_120 : decode cX5_plays 120 = .ok (.aload_n 0, 1) := by decide +kernel
theorem dX5_plays_121 : decode cX5_plays 121 = .ok (.getfield 50, 3) := by decide +kernel
theorem dX5_plays_124 : decode cX5_plays 124 = .ok (.iload 4, 2) := by decide +kernel
theorem dX5_plays_126 : decode cX5_plays 126 = .ok (.iaload, 1) := by decide +kernel
theorem dX5_plays_127 : decode cX5_plays 127 = .ok (.iastore, 1) := by decide +kernel
theorem dX5_plays_128 : decode cX5_plays 128 = .ok (.iinc 4 1, 3) := by decide +kernel
theorem dX5_plays_131 : decode cX5_plays 131 = .ok (.goto (-35), 3) := by decide +kernel
theorem dX5_plays_134 : decode cX5_plays 134 = .ok (.iinc 2 1, 3) := by decide +kernel
theorem dX5_plays_137 : decode cX5_plays 137 = .ok (.goto (-97), 3) := by decide +kernel
theorem dX5_plays_140 : decode cX5_plays 140 = .ok (.return_, 1) := by decide +kernel
set_option maxRecDepth 20000 in
theorem ggX5_memoryAfter_X5_within : GoodIn wsX5_memoryAfter wsX5_within := goodIn_r _ [9] (by decide +kernel) (by decide +kernel)
set_option maxRecDepth 20000 in
theorem gX5_memoryAfter_X5_within : GoodIn wsX5_memoryAfter (va_wsS RX5 61 yX5_within wsX5_within) := goodIn_app (goodIn_of _ (by decide +kernel)) ggX5_memoryAfter_X5_within
set_option maxRecDepth 20000 in
theorem ggX5_memoryAfter_X5_plays : GoodIn wsX5_memoryAfter wsX5_plays := goodIn_r _ [13, 5, 3, 14, 15, 16, 17, 18, 19, 20, 21, 22, 23, 24, 25, 26, 27, 28, 29, 30, 31, 32, 33, 34, 35, 36, 37, 38] (by decide +kernel) (by decide +kernel)
set_option maxRecDepth 20000 in
theorem gX5_memoryAfter_X5_plays : GoodIn wsX5_memoryAfter (wsV RX5 137 RX5 yX5_plays wsX5_plays) := goodIn_app (goodIn_of _ (by decide +kernel)) ggX5_memoryAfter_X5_plays
theorem dX5_memoryAfter_0 : decode cX5_memoryAfter 0 = .ok (.aload_n 0, 1) := by decide +kernel
theorem dX5_memoryAfter_1 : decode cX5_memoryAfter 1 = .ok (.getfield 53, 3) := by decide +kernel
theorem dX5_memoryAfter_4 : decode cX5_memoryAfter 4 = .ok (.ifCond .ne 7, 3) := by decide +kernel
theorem dX5_memoryAfter_7 : decode cX5_memoryAfter 7 = .ok (.sipush (-10004), 3) := by decide +kernel
theorem dX5_memoryAfter_10 : decode cX5_memoryAfter 10 = .ok (.ireturn, 1) := by decide +kernel
theorem dX5_memoryAfter_11 : decode cX5_memoryAfter 11 = .ok (.iload_n 1, 1) := by decide +kernel
theorem dX5_memoryAfter_12 : decode cX5_memoryAfter 12 = .ok (.iconst 0, 1) := by decide +kernel
theorem dX5_memoryAfter_13 : decode cX5_memoryAfter 13 = .ok (.aload_n 0, 1) := by decide +kernel
theorem dX5_memoryAfter_14 : decode cX5_memoryAfter 14 = .ok (.getfield 125, 3) := by decide +kernel
theorem dX5_memoryAfter_17 : decode cX5_memoryAfter 17 = .ok (.invokestatic 61, 3) := by decide +kernel
theorem dX5_memoryAfter_20 : decode cX5_memoryAfter 20 = .ok (.ifCond .ne 7, 3) := by decide +kernel
theorem dX5_memoryAfter_23 : decode cX5_memoryAfter 23 = .ok (.sipush (-10001), 3) := by decide +kernel
theorem dX5_memoryAfter_26 : decode cX5_memoryAfter 26 = .ok (.ireturn, 1) := by decide +kernel
theorem dX5_memoryAfter_27 : decode cX5_memoryAfter 27 = .ok (.iload_n 2, 1) := by decide +kernel
theorem dX5_memoryAfter_28 : decode cX5_memoryAfter 28 = .ok (.iconst 0, 1) := by decide +kernel
theorem dX5_memoryAfter_29 : decode cX5_memoryAfter 29 = .ok (.aload_n 0, 1) := by decide +kernel
theorem dX5_memoryAfter_30 : decode cX5_memoryAfter 30 = .ok (.getfield 65, 3) := by decide +kernel
theorem dX5_memoryAfter_33 : decode cX5_memoryAfter 33 = .ok (.aload_n 0, 1) := by decide +kernel
theorem dX5_memoryAfter_34 : decode cX5_memoryAfter 34 = .ok (.getfield 57, 3) := by decide +kernel
theorem dX5_memoryAfter_37 : decode cX5_memoryAfter 37 = .ok (.if_icmp .le 10, 3) := by decide +kernel
theorem dX5_memoryAfter_40 : decode cX5_memoryAfter 40 = .ok (.aload_n 0, 1) := by decide +kernel
theorem dX5_memoryAfter_41 : decode cX5_memoryAfter 41 = .ok (.getfield 65, 3) := by decide +kernel
theorem dX5_memoryAfter_44 : decode cX5_memoryAfter 44 = .ok (.goto 7, 3) := by decide +kernel
theorem dX5_memoryAfter_47 : decode cX5_memoryAfter 47 = .ok (.aload_n 0, 1) := by decide +kernel
theorem dX5_memoryAfter_48 : decode cX5_memoryAfter 48 = .ok (.getfield 57, 3) := by decide +kernel
theorem dX5_memoryAfter_51 : decode cX5_memoryAfter 51 = .ok (.iconst 1, 1) := by decide +kernel
theorem dX5_memoryAfter_52 : decode cX5_memoryAfter 52 = .ok (.isub, 1) := by decide +kernel
theorem dX5_memoryAfter_53 : decode cX5_memoryAfter 53 = .ok (.invokestatic 61, 3) := by decide +kernel
theorem dX5_memoryAfter_56 : decode cX5_memoryAfter 56 = .ok (.ifCond .ne 7, 3) := by decide +kernel
theorem dX5_memoryAfter_59 : decode cX5_memoryAfter 59 = .ok (.sipush (-10003), 3) := by decide +kernel
theorem dX5_memoryAfter_62 : decode cX5_memoryAfter 62 = .ok (.ireturn, 1) := by decide +kernel
theorem dX5_memoryAfter_63 : decode cX5_memoryAfter 63 = .ok (.aload_n 0, 1) := by decide +kernel
theorem dX5_memoryAfter_64 : decode cX5_memoryAfter 64 = .ok (.iload_n 1, 1) := by decide +kernel
theorem dX5_memoryAfter_65 : decode cX5_memoryAfter 65 = .ok (.invokevirtual 137, 3) := by decide +kernel
theorem dX5_memoryAfter_68 : decode cX5_memoryAfter 68 = .ok (.aload_n 0, 1) := by decide +kernel
theorem dX5_memoryAfter_69 : decode cX5_memoryAfter 69 = .ok (.getfield 47, 3) := by decide +kernel
theorem dX5_memoryAfter_72 : decode cX5_memoryAfter 72 = .ok (.iload_n 2, 1) := by decide +kernel
theorem dX5_memoryAfter_73 : decode cX5_memoryAfter 73 = .ok (.iaload, 1) := by decide +kernel
theorem dX5_memoryAfter_74 : decode cX5_memoryAfter 74 = .ok (.ireturn, 1) := by decide +kernel
set_option maxRecDepth 20000 in
theorem ggX5_patchedValue_X5_isNew : GoodIn wsX5_patchedValue wsX5_isNew := goodIn_r _ [10, 11, 12, 13, 9, 14, 49, 50, 51, 52, 53, 54, 55, 56, 57, 58, 59, 60, 61, 62, 63, 64, 65, 66, 67] (by decide +kernel) (by decide +kernel)
set_option maxRecDepth 20000 in
theorem gX5_patchedValue_X5_isNew : GoodIn wsX5_patchedValue (wsV RX5 68 RX5 yX5_isNew wsX5_isNew) := goodIn_app (goodIn_of _ (by decide +kernel)) ggX5_patchedValue_X5_isNew
set_option maxRecDepth 20000 in
theorem ggX5_patchedValue_X5_isCopied : GoodIn wsX5_patchedValue wsX5_isCopied := goodIn_r _ [18, 19, 20, 49, 50, 51, 52, 53, 54, 55, 56, 57, 58, 59, 60, 61, 62, 63, 64, 65, 66, 67] (by decide +kernel) (by decide +kernel)
set_option maxRecDepth 20000 in
theorem gX5_patchedValue_X5_isCopied : GoodIn wsX5_patchedValue (wsV RX5 134 RX5 yX5_isCopied wsX5_isCopied) := goodIn_app (goodIn_of _ (by decide +kernel)) ggX5_patchedValue_X5_isCopied
set_option maxRecDepth 20000 in
theorem ggX5_patchedValue_X5_isCorrected : GoodIn wsX5_patchedValue wsX5_isCorrected := goodIn_r _ [24, 19, 2, 25, 26, 27, 9, 28, 4, 29, 30, 31, 32, 33, 34, 35, 36, 37, 38, 39, 40, 49, 50, 51, 52, 53, 54, 55, 56, 57, 58, 59, 60, 61, 62, 63, 64, 65, 66, 67] (by decide +kernel) (by decide +kernel)
set_option maxRecDepth 20000 in
theorem gX5_patchedValue_X5_isCorrected : GoodIn wsX5_patchedValue (wsV RX5 110 RX5 yX5_isCorrected wsX5_isCorrected) := goodIn_app (goodIn_of _ (by decide +kernel)) ggX5_patchedValue_X5_isCorrected
set_option maxRecDepth 20000 in
theorem ggX5_patchedValue_X5_plays : GoodIn wsX5_patchedValue wsX5_plays := goodIn_r _ [44, 5, 45, 29, 46, 47, 48, 34, 35, 49, 50, 51, 52, 53, 54, 55, 56, 57, 58, 59, 60, 61, 62, 63, 64, 65, 66, 67] (by decide +kernel) (by decide +kernel)
set_option maxRecDepth 20000 in
theorem gX5_patchedValue_X5_plays : GoodIn wsX5_patchedValue (wsV RX5 137 RX5 yX5_plays wsX5_plays) := goodIn_app (goodIn_of _ (by decide +kernel)) ggX5_patchedValue_X5_plays
set_option maxRecDepth 20000 in
theorem ggX5_patchedValue_X5_oldIndexOf : GoodIn wsX5_patchedValue wsX5_oldIndexOf := goodIn_r _ [33, 19, 34, 35, 49, 50, 51, 52, 53, 54, 55, 56, 57, 58, 59, 60, 61, 62, 63, 64, 65, 66, 67] (by decide +kernel) (by decide +kernel)
set_option maxRecDepth 20000 in
theorem gX5_patchedValue_X5_oldIndexOf : GoodIn wsX5_patchedValue (wsV RX5 104 RX5 yX5_oldIndexOf wsX5_oldIndexOf) := goodIn_app (goodIn_of _ (by decide +kernel)) ggX5_patchedValue_X5_oldIndexOf
set_option maxRecDepth 20000 in
theorem ggX5_patchedValue_X5_predicts : GoodIn wsX5_patchedValue wsX5_predicts := goodIn_r _ [39, 40, 34, 35, 49, 50, 51, 52, 53, 54, 55, 56, 57, 58, 59, 60, 61, 62, 63, 64, 65, 66, 67] (by decide +kernel) (by decide +kernel)
set_option maxRecDepth 20000 in
theorem gX5_patchedValue_X5_predicts : GoodIn wsX5_patchedValue (wsV RX5 100 RX5 yX5_predicts wsX5_predicts) := goodIn_app (goodIn_of _ (by decide +kernel)) ggX5_patchedValue_X5_predicts
theorem dX5_patchedValue_0 : decode cX5_patchedValue 0 = .ok (.aload_n 0, 1) := by decide +kernel
theorem dX5_patchedValue_1 : decode cX5_patchedValue 1 = .ok (.getfield 53, 3) := by decide +kernel
theorem dX5_patchedValue_4 : decode cX5_patchedValue 4 = .ok (.ifCond .ne 7, 3) := by decide +kernel
theorem dX5_patchedValue_7 : decode cX5_patchedValue 7 = .ok (.sipush (-10004), 3) := by decide +kernel
theorem dX5_patchedValue_10 : decode cX5_patchedValue 10 = .ok (.ireturn, 1) := by decide +kernel
theorem dX5_patchedValue_11 : decode cX5_patchedValue 11 = .ok (.aload_n 0, 1) := by decide +kernel
theorem dX5_patchedValue_12 : decode cX5_patchedValue 12 = .ok (.iload_n 1, 1) := by decide +kernel
theorem dX5_patchedValue_13 : decode cX5_patchedValue 13 = .ok (.invokevirtual 68, 3) := by decide +kernel
theorem dX5_patchedValue_16 : decode cX5_patchedValue 16 = .ok (.ifCond .ne 7, 3) := by decide +kernel
theorem dX5_patchedValue_19 : decode cX5_patchedValue 19 = .ok (.sipush (-10003), 3) := by decide +kernel
theorem dX5_patchedValue_22 : decode cX5_patchedValue 22 = .ok (.ireturn, 1) := by decide +kernel
theorem dX5_patchedValue_23 : decode cX5_patchedValue 23 = .ok (.aload_n 0, 1) := by decide +kernel
theorem dX5_patchedValue_24 : decode cX5_patchedValue 24 = .ok (.iload_n 1, 1) := by decide +kernel
theorem dX5_patchedValue_25 : decode cX5_patchedValue 25 = .ok (.invokevirtual 134, 3) := by decide +kernel
theorem dX5_patchedValue_28 : decode cX5_patchedValue 28 = .ok (.ifCond .eq 11, 3) := by decide +kernel
theorem dX5_patchedValue_31 : decode cX5_patchedValue 31 = .ok (.aload_n 0, 1) := by decide +kernel
theorem dX5_patchedValue_32 : decode cX5_patchedValue 32 = .ok (.iload_n 1, 1) := by decide +kernel
theorem dX5_patchedValue_33 : decode cX5_patchedValue 33 = .ok (.invokevirtual 110, 3) := by decide +kernel
theorem dX5_patchedValue_36 : decode cX5_patchedValue 36 = .ok (.ifCond .eq 10, 3) := by decide +kernel
theorem dX5_patchedValue_39 : decode cX5_patchedValue 39 = .ok (.aload_n 0, 1) := by decide +kernel
theorem dX5_patchedValue_40 : decode cX5_patchedValue 40 = .ok (.getfield 17, 3) := by decide +kernel
theorem dX5_patchedValue_43 : decode cX5_patchedValue 43 = .ok (.iload_n 1, 1) := by decide +kernel
theorem dX5_patchedValue_44 : decode cX5_patchedValue 44 = .ok (.iaload, 1) := by decide +kernel
theorem dX5_patchedValue_45 : decode cX5_patchedValue 45 = .ok (.ireturn, 1) := by decide +kernel
theorem dX5_patchedValue_46 : decode cX5_patchedValue 46 = .ok (.aload_n 0, 1) := by decide +kernel
theorem dX5_patchedValue_47 : decode cX5_patchedValue 47 = .ok (.aload_n 0, 1) := by decide +kernel
theorem dX5_patchedValue_48 : decode cX5_patchedValue 48 = .ok (.getfield 125, 3) := by decide +kernel
theorem dX5_patchedValue_51 : decode cX5_patchedValue 51 = .ok (.invokevirtual 137, 3) := by decide +kernel
theorem dX5_patchedValue_54 : decode cX5_patchedValue 54 = .ok (.aload_n 0, 1) := by decide +kernel
theorem dX5_patchedValue_55 : decode cX5_patchedValue 55 = .ok (.getfield 13, 3) := by decide +kernel
theorem dX5_patchedValue_58 : decode cX5_patchedValue 58 = .ok (.aload_n 0, 1) := by decide +kernel
theorem dX5_patchedValue_59 : decode cX5_patchedValue 59 = .ok (.iload_n 1, 1) := by decide +kernel
theorem dX5_patchedValue_60 : decode cX5_patchedValue 60 = .ok (.invokevirtual 104, 3) := by decide +kernel
theorem dX5_patchedValue_63 : decode cX5_patchedValue 63 = .ok (.baload, 1) := by decide +kernel
theorem dX5_patchedValue_64 : decode cX5_patchedValue 64 = .ok (.ifCond .eq 16, 3) := by decide +kernel
theorem dX5_patchedValue_67 : decode cX5_patchedValue 67 = .ok (.aload_n 0, 1) := by decide +kernel
theorem dX5_patchedValue_68 : decode cX5_patchedValue 68 = .ok (.aload_n 0, 1) := by decide +kernel
theorem dX5_patchedValue_69 : decode cX5_patchedValue 69 = .ok (.getfield 47, 3) := by decide +kernel
theorem dX5_patchedValue_72 : decode cX5_patchedValue 72 = .ok (.iload_n 1, 1) := by decide +kernel
theorem dX5_patchedValue_73 : decode cX5_patchedValue 73 = .ok (.iaload, 1) := by decide +kernel
theorem dX5_patchedValue_74 : decode cX5_patchedValue 74 = .ok (.invokevirtual 100, 3) := by decide +kernel
theorem dX5_patchedValue_77 : decode cX5_patchedValue 77 = .ok (.goto 9, 3) := by decide +kernel
theorem dX5_patchedValue_80 : decode cX5_patchedValue 80 = .ok (.aload_n 0, 1) := by decide +kernel
theorem dX5_patchedValue_81 : decode cX5_patchedValue 81 = .ok (.getfield 47, 3) := by decide +kernel
theorem dX5_patchedValue_84 : decode cX5_patchedValue 84 = .ok (.iload_n 1, 1) := by decide +kernel
theorem dX5_patchedValue_85 : decode cX5_patchedValue 85 = .ok (.iaload, 1) := by decide +kernel
theorem dX5_patchedValue_86 : decode cX5_patchedValue 86 = .ok (.ireturn, 1) := by decide +kernel
theorem dJ9_max_7cf53_0 : decode cJ9_max_7cf53 0 = .ok (.iload_n 0, 1) := by decide +kernel
theorem dJ9_max_7cf53_1 : decode cJ9_max_7cf53 1 = .ok (.iload_n 1, 1) := by decide +kernel
theorem dJ9_max_7cf53_2 : decode cJ9_max_7cf53 2 = .ok (.if_icmp .lt 7, 3) := by decide +kernel
theorem dJ9_max_7cf53_5 : decode cJ9_max_7cf53 5 = .ok (.iload_n 0, 1) := by decide +kernel
theorem dJ9_max_7cf53_6 : decode cJ9_max_7cf53 6 = .ok (.goto 4, 3) := by decide +kernel
theorem dJ9_max_7cf53_9 : decode cJ9_max_7cf53 9 = .ok (.iload_n 1, 1) := by decide +kernel
theorem dJ9_max_7cf53_10 : decode cJ9_max_7cf53 10 = .ok (.ireturn, 1) := by decide +kernel
set_option maxRecDepth 20000 in
theorem ggL_law_X4_init : GoodIn wsL_law wsX4_init := goodIn_r _ [8, 9, 10, 11, 12, 13, 14, 15, 16, 17, 18, 19, 20, 21, 22, 23, 24, 25, 26, 27, 28, 29, 30, 31, 32, 33, 34, 35, 36, 37, 38, 39, 40, 41, 42, 43, 44, 45, 46, 47, 48, 49, 50, 51, 52, 53, 54, 55, 56, 57, 58, 59, 60, 61, 62, 63, 64, 630, 631, 632, 605, 606, 607, 608, 609, 610, 633, 634, 635, 636, 637, 638, 639, 640, 641, 642, 643, 644, 645, 646] (by decide +kernel) (by decide +kernel)
set_option maxRecDepth 20000 in
theorem gL_law_X4_init : GoodIn wsL_law (wsX4_init) := ggL_law_X4_init
set_option maxRecDepth 20000 in
theorem ggL_law_X5_init : GoodIn wsL_law wsX5_init := goodIn_r _ [67, 68, 10, 11, 34, 69, 36, 70, 71, 72, 73, 74, 75, 76, 77, 78, 79, 80, 81, 82, 83, 611, 612, 613, 614, 615, 616, 617, 618, 619, 620, 621, 622, 623, 624, 625, 626, 627, 628, 629] (by decide +kernel) (by decide +kernel)
set_option maxRecDepth 20000 in
theorem gL_law_X5_init : GoodIn wsL_law (wsX5_init) := ggL_law_X5_init
set_option maxRecDepth 20000 in
theorem ggL_law_X4_appendOld : GoodIn wsL_law wsX4_appendOld := goodIn_r _ [87, 15, 88, 89, 90, 2, 91, 29, 92, 93, 94, 95, 96, 97, 14, 98, 38, 99, 100, 101, 102, 35, 37, 103, 104, 105, 106, 107, 605, 606, 607, 608, 609, 610, 630, 631, 632] (by decide +kernel) (by decide +kernel)
set_option maxRecDepth 20000 in
theorem gL_law_X4_appendOld : GoodIn wsL_law (wsV RL 13 RX4 yX4_appendOld wsX4_appendOld) := goodIn_app (goodIn_of _ (by decide +kernel)) ggL_law_X4_appendOld
set_option maxRecDepth 20000 in
theorem ggL_law_X5_appendOld : GoodIn wsL_law wsX5_appendOld := goodIn_r _ [111, 112, 69, 70, 83, 113, 114, 5, 115, 611, 612, 613, 614, 615, 616, 617, 618, 619, 620, 621, 622, 623, 624, 625, 626, 627, 628, 629] (by decide +kernel) (by decide +kernel)
set_option maxRecDepth 20000 in
theorem gL_law_X5_appendOld : GoodIn wsL_law (wsV RL 17 RX5 yX5_appendOld wsX5_appendOld) := goodIn_app (goodIn_of _ (by decide +kernel)) ggL_law_X5_appendOld
set_option maxRecDepth 20000 in
theorem ggL_law_X4_appendNew : GoodIn wsL_law wsX4_appendNew := goodIn_r _ [119, 16, 88, 89, 90, 2, 91, 29, 92, 93, 94, 95, 96, 97, 14, 98, 38, 99, 100, 101, 102, 35, 37, 103, 104, 105, 106, 107, 605, 606, 607, 608, 609, 610, 630, 631, 632] (by decide +kernel) (by decide +kernel)
set_option maxRecDepth 20000 in
theorem gL_law_X4_appendNew : GoodIn wsL_law (wsV RL 18 RX4 yX4_appendNew wsX4_appendNew) := goodIn_app (goodIn_of _ (by decide +kernel)) ggL_law_X4_appendNew
set_option maxRecDepth 20000 in
theorem ggL_law_X5_appendNew : GoodIn wsL_law wsX5_appendNew := goodIn_r _ [123, 124, 71, 72, 83, 113, 114, 5, 115, 611, 612, 613, 614, 615, 616, 617, 618, 619, 620, 621, 622, 623, 624, 625, 626, 627, 628, 629] (by decide +kernel) (by decide +kernel)
set_option maxRecDepth 20000 in
theorem gL_law_X5_appendNew : GoodIn wsL_law (wsV RL 21 RX5 yX5_appendNew wsX5_appendNew) := goodIn_app (goodIn_of _ (by decide +kernel)) ggL_law_X5_appendNew
set_option maxRecDepth 20000 in
theorem ggL_law_X4_setNew : GoodIn wsL_law wsX4_setNew := goodIn_r _ [128, 16, 29, 129, 130, 131, 14, 132, 38, 92, 93, 2, 94, 133, 134, 135, 136, 35, 137, 138, 139, 140, 141, 605, 606, 607, 608, 609, 610, 630, 631, 632] (by decide +kernel) (by decide +kernel)
set_option maxRecDepth 20000 in
theorem gL_law_X4_setNew : GoodIn wsL_law (wsV RL 22 RX4 yX4_setNew wsX4_setNew) := goodIn_app (goodIn_of _ (by decide +kernel)) ggL_law_X4_setNew
set_option maxRecDepth 20000 in
theorem ggL_law_X5_setNew : GoodIn wsL_law wsX5_setNew := goodIn_r _ [145, 71, 83, 146, 147, 148, 5, 149, 124, 113, 114, 115, 611, 612, 613, 614, 615, 616, 617, 618, 619, 620, 621, 622, 623, 624, 625, 626, 627, 628, 629] (by decide +kernel) (by decide +kernel)
set_option maxRecDepth 20000 in
theorem gL_law_X5_setNew : GoodIn wsL_law (wsV RL 26 RX5 yX5_setNew wsX5_setNew) := goodIn_app (goodIn_of _ (by decide +kernel)) ggL_law_X5_setNew
set_option maxRecDepth 20000 in
theorem ggL_law_X4_clear : GoodIn wsL_law wsX4_clear := goodIn_r _ [153, 15, 16, 29, 104, 105, 106, 14, 107, 38, 154, 155, 156, 157, 605, 606, 607, 608, 609, 610, 630, 631, 632] (by decide +kernel) (by decide +kernel)
set_option maxRecDepth 20000 in
theorem gL_law_X4_clear : GoodIn wsL_law (wsV RL 27 RX4 yX4_clear wsX4_clear) := goodIn_app (goodIn_of _ (by decide +kernel)) ggL_law_X4_clear
set_option maxRecDepth 20000 in
theorem ggL_law_X5_clear : GoodIn wsL_law wsX5_clear := goodIn_r _ [161, 112, 124, 83, 611, 612, 613, 614, 615, 616, 617, 618, 619, 620, 621, 622, 623, 624, 625, 626, 627, 628, 629] (by decide +kernel) (by decide +kernel)
set_option maxRecDepth 20000 in
theorem gL_law_X5_clear : GoodIn wsL_law (wsV RL 31 RX5 yX5_clear wsX5_clear) := goodIn_app (goodIn_of _ (by decide +kernel)) ggL_law_X5_clear
set_option maxRecDepth 20000 in
theorem ggL_law_X4_oldLength : GoodIn wsL_law wsX4_oldLength := goodIn_r _ [165, 15, 104, 105, 106, 14, 107, 38, 605, 606, 607, 608, 609, 610, 630, 631, 632] (by decide +kernel) (by decide +kernel)
set_option maxRecDepth 20000 in
theorem gL_law_X4_oldLength : GoodIn wsL_law (wsV RL 32 RX4 yX4_oldLength wsX4_oldLength) := goodIn_app (goodIn_of _ (by decide +kernel)) ggL_law_X4_oldLength
set_option maxRecDepth 20000 in
theorem ggL_law_X5_oldLength : GoodIn wsL_law wsX5_oldLength := goodIn_r _ [169, 112, 611, 612, 613, 614, 615, 616, 617, 618, 619, 620, 621, 622, 623, 624, 625, 626, 627, 628, 629] (by decide +kernel) (by decide +kernel)
set_option maxRecDepth 20000 in
theorem gL_law_X5_oldLength : GoodIn wsL_law (wsV RL 35 RX5 yX5_oldLength wsX5_oldLength) := goodIn_app (goodIn_of _ (by decide +kernel)) ggL_law_X5_oldLength
set_option maxRecDepth 20000 in
theorem ggL_law_X4_newLength : GoodIn wsL_law wsX4_newLength := goodIn_r _ [173, 16, 104, 105, 106, 14, 107, 38, 605, 606, 607, 608, 609, 610, 630, 631, 632] (by decide +kernel) (by decide +kernel)
set_option maxRecDepth 20000 in
theorem gL_law_X4_newLength : GoodIn wsL_law (wsV RL 36 RX4 yX4_newLength wsX4_newLength) := goodIn_app (goodIn_of _ (by decide +kernel)) ggL_law_X4_newLength
set_option maxRecDepth 20000 in
theorem ggL_law_X5_newLength : GoodIn wsL_law wsX5_newLength := goodIn_r _ [177, 124, 611, 612, 613, 614, 615, 616, 617, 618, 619, 620, 621, 622, 623, 624, 625, 626, 627, 628, 629] (by decide +kernel) (by decide +kernel)
set_option maxRecDepth 20000 in
theorem gL_law_X5_newLength : GoodIn wsL_law (wsV RL 39 RX5 yX5_newLength wsX5_newLength) := goodIn_app (goodIn_of _ (by decide +kernel)) ggL_law_X5_newLength
set_option maxRecDepth 20000 in
theorem ggL_law_X4_newValue : GoodIn wsL_law wsX4_newValue := goodIn_r _ [181, 16, 129, 130, 131, 14, 132, 38, 133, 134, 135, 136, 35, 137, 605, 606, 607, 608, 609, 610, 630, 631, 632] (by decide +kernel) (by decide +kernel)
set_option maxRecDepth 20000 in
theorem gL_law_X4_newValue : GoodIn wsL_law (wsV RL 40 RX4 yX4_newValue wsX4_newValue) := goodIn_app (goodIn_of _ (by decide +kernel)) ggL_law_X4_newValue
set_option maxRecDepth 20000 in
theorem ggL_law_X5_newValue : GoodIn wsL_law wsX5_newValue := goodIn_r _ [185, 71, 146, 147, 148, 5, 149, 124, 113, 114, 115, 611, 612, 613, 614, 615, 616, 617, 618, 619, 620, 621, 622, 623, 624, 625, 626, 627, 628, 629] (by decide +kernel) (by decide +kernel)
set_option maxRecDepth 20000 in
theorem gL_law_X5_newValue : GoodIn wsL_law (wsV RL 44 RX5 yX5_newValue wsX5_newValue) := goodIn_app (goodIn_of _ (by decide +kernel)) ggL_law_X5_newValue
set_option maxRecDepth 20000 in
theorem ggL_law_X4_build : GoodIn wsL_law wsX4_build := goodIn_r _ [189, 24, 15, 16, 20, 28, 29, 190, 191, 192, 23, 193, 56, 54, 55, 194, 195, 196, 19, 197, 46, 198, 199, 200, 201, 51, 52, 202, 203, 204, 205, 53, 206, 105, 106, 14, 107, 38, 207, 208, 209, 210, 211, 212, 213, 214, 215, 216, 217, 218, 219, 220, 221, 37, 137, 130, 131, 132, 222, 134, 135, 136, 35, 223, 224, 225, 226, 227, 228, 229, 230, 231, 232, 233, 234, 44, 43, 45, 235, 236, 237, 27, 238, 64, 62, 63, 239, 240, 241, 242, 243, 244, 245, 246, 247, 248, 249, 250, 251, 252, 253, 254, 255, 256, 257, 258, 259, 260, 261, 262, 263, 264, 265, 266, 267, 268, 269, 270, 271, 272, 273, 274, 275, 276, 277, 278, 279, 61, 280, 281, 282, 283, 284, 285, 286, 287, 288, 289, 605, 606, 607, 608, 609, 610, 637, 638, 639, 640, 641, 642, 633, 634, 635, 636, 630, 631, 632, 643, 644, 645, 646] (by decide +kernel) (by decide +kernel)
set_option maxRecDepth 20000 in
theorem gL_law_X4_build : GoodIn wsL_law (wsV RL 45 RX4 yX4_build wsX4_build) := goodIn_app (goodIn_of _ (by decide +kernel)) ggL_law_X4_build
set_option maxRecDepth 20000 in
theorem ggL_law_X5_build : GoodIn wsL_law wsX5_build := goodIn_r _ [293, 76, 77, 78, 83, 294, 113, 114, 5, 115, 295, 296, 297, 298, 124, 112, 299, 300, 301, 302, 303, 304, 305, 306, 70, 72, 69, 71, 307, 308, 309, 310, 311, 312, 313, 314, 73, 74, 75, 315, 316, 317, 318, 319, 80, 79, 320, 321, 322, 323, 324, 325, 326, 327, 328, 329, 330, 331, 332, 333, 334, 335, 611, 612, 613, 614, 615, 616, 617, 618, 619, 620, 621, 622, 623, 624, 625, 626, 627, 628, 629] (by decide +kernel) (by decide +kernel)
set_option maxRecDepth 20000 in
theorem gL_law_X5_build : GoodIn wsL_law (wsV RL 48 RX5 yX5_build wsX5_build) := goodIn_app (goodIn_of _ (by decide +kernel)) ggL_law_X5_build
set_option maxRecDepth 20000 in
theorem ggL_law_X4_blockOldStart : GoodIn wsL_law wsX4_blockOldStart := goodIn_r _ [339, 20, 340, 341, 342, 2, 343, 29, 344, 240, 241, 19, 242, 46, 345, 269, 270, 271, 43, 267, 605, 606, 607, 608, 609, 610, 633, 634, 635, 636] (by decide +kernel) (by decide +kernel)
set_option maxRecDepth 20000 in
theorem gL_law_X4_blockOldStart : GoodIn wsL_law (wsV RL 49 RX4 yX4_blockOldStart wsX4_blockOldStart) := goodIn_app (goodIn_of _ (by decide +kernel)) ggL_law_X4_blockOldStart
set_option maxRecDepth 20000 in
theorem ggL_law_X5_blockOldStart : GoodIn wsL_law wsX5_blockOldStart := goodIn_r _ [349, 73, 350, 351, 352, 5, 353, 83, 294, 113, 114, 115, 611, 612, 613, 614, 615, 616, 617, 618, 619, 620, 621, 622, 623, 624, 625, 626, 627, 628, 629] (by decide +kernel) (by decide +kernel)
set_option maxRecDepth 20000 in
theorem gL_law_X5_blockOldStart : GoodIn wsL_law (wsV RL 52 RX5 yX5_blockOldStart wsX5_blockOldStart) := goodIn_app (goodIn_of _ (by decide +kernel)) ggL_law_X5_blockOldStart
set_option maxRecDepth 20000 in
theorem ggL_law_X4_blockNewStart : GoodIn wsL_law wsX4_blockNewStart := goodIn_r _ [357, 20, 340, 341, 342, 2, 343, 29, 344, 240, 241, 19, 242, 46, 358, 264, 265, 266, 44, 267, 605, 606, 607, 608, 609, 610, 633, 634, 635, 636] (by decide +kernel) (by decide +kernel)
set_option maxRecDepth 20000 in
theorem gL_law_X4_blockNewStart : GoodIn wsL_law (wsV RL 53 RX4 yX4_blockNewStart wsX4_blockNewStart) := goodIn_app (goodIn_of _ (by decide +kernel)) ggL_law_X4_blockNewStart
set_option maxRecDepth 20000 in
theorem ggL_law_X5_blockNewStart : GoodIn wsL_law wsX5_blockNewStart := goodIn_r _ [362, 74, 350, 351, 352, 5, 353, 83, 294, 113, 114, 115, 611, 612, 613, 614, 615, 616, 617, 618, 619, 620, 621, 622, 623, 624, 625, 626, 627, 628, 629] (by decide +kernel) (by decide +kernel)
set_option maxRecDepth 20000 in
theorem gL_law_X5_blockNewStart : GoodIn wsL_law (wsV RL 56 RX5 yX5_blockNewStart wsX5_blockNewStart) := goodIn_app (goodIn_of _ (by decide +kernel)) ggL_law_X5_blockNewStart
set_option maxRecDepth 20000 in
theorem ggL_law_X4_blockLength : GoodIn wsL_law wsX4_blockLength := goodIn_r _ [366, 20, 340, 341, 342, 2, 343, 29, 344, 240, 241, 19, 242, 46, 367, 273, 274, 275, 45, 267, 605, 606, 607, 608, 609, 610, 633, 634, 635, 636] (by decide +kernel) (by decide +kernel)
set_option maxRecDepth 20000 in
theorem gL_law_X4_blockLength : GoodIn wsL_law (wsV RL 57 RX4 yX4_blockLength wsX4_blockLength) := goodIn_app (goodIn_of _ (by decide +kernel)) ggL_law_X4_blockLength
set_option maxRecDepth 20000 in
theorem ggL_law_X5_blockLength : GoodIn wsL_law wsX5_blockLength := goodIn_r _ [371, 75, 350, 351, 352, 5, 353, 83, 294, 113, 114, 115, 611, 612, 613, 614, 615, 616, 617, 618, 619, 620, 621, 622, 623, 624, 625, 626, 627, 628, 629] (by decide +kernel) (by decide +kernel)
set_option maxRecDepth 20000 in
theorem gL_law_X5_blockLength : GoodIn wsL_law (wsV RL 60 RX5 yX5_blockLength wsX5_blockLength) := goodIn_app (goodIn_of _ (by decide +kernel)) ggL_law_X5_blockLength
set_option maxRecDepth 20000 in
theorem ggL_law_X4_blockOf : GoodIn wsL_law wsX4_blockOf := goodIn_r _ [375, 20, 376, 377, 378, 2, 379, 29, 16, 129, 130, 131, 14, 132, 38, 380, 381, 382, 19, 383, 46, 384, 385, 386, 387, 263, 264, 265, 266, 44, 267, 240, 241, 242, 272, 273, 274, 275, 45, 605, 606, 607, 608, 609, 610, 630, 631, 632, 633, 634, 635, 636] (by decide +kernel) (by decide +kernel)
set_option maxRecDepth 20000 in
theorem gL_law_X4_blockOf : GoodIn wsL_law (wsV RL 61 RX4 yX4_blockOf wsX4_blockOf) := goodIn_app (goodIn_of _ (by decide +kernel)) ggL_law_X4_blockOf
set_option maxRecDepth 20000 in
theorem ggL_law_X5_blockOf : GoodIn wsL_law wsX5_blockOf := goodIn_r _ [391, 83, 76, 146, 147, 148, 5, 149, 124, 113, 114, 115, 611, 612, 613, 614, 615, 616, 617, 618, 619, 620, 621, 622, 623, 624, 625, 626, 627, 628, 629] (by decide +kernel) (by decide +kernel)
set_option maxRecDepth 20000 in
theorem gL_law_X5_blockOf : GoodIn wsL_law (wsV RL 64 RX5 yX5_blockOf wsX5_blockOf) := goodIn_app (goodIn_of _ (by decide +kernel)) ggL_law_X5_blockOf
set_option maxRecDepth 20000 in
theorem ggL_law_X4_predictedAddress : GoodIn wsL_law wsX4_predictedAddress := goodIn_r _ [395, 29, 20, 92, 93, 2, 94, 396, 397, 398, 19, 399, 46, 268, 269, 270, 271, 43, 267, 240, 241, 242, 263, 264, 265, 266, 44, 605, 606, 607, 608, 609, 610, 633, 634, 635, 636] (by decide +kernel) (by decide +kernel)
set_option maxRecDepth 20000 in
theorem gL_law_X4_predictedAddress : GoodIn wsL_law (wsV RL 65 RX4 yX4_predictedAddress wsX4_predictedAddress) := goodIn_app (goodIn_of _ (by decide +kernel)) ggL_law_X4_predictedAddress
set_option maxRecDepth 20000 in
theorem ggL_law_X5_predictedAddress : GoodIn wsL_law wsX5_predictedAddress := goodIn_r _ [403, 83, 113, 114, 5, 115, 404, 405, 406, 407, 294, 73, 74, 611, 612, 613, 614, 615, 616, 617, 618, 619, 620, 621, 622, 623, 624, 625, 626, 627, 628, 629] (by decide +kernel) (by decide +kernel)
set_option maxRecDepth 20000 in
theorem gL_law_X5_predictedAddress : GoodIn wsL_law (wsV RL 68 RX5 yX5_predictedAddress wsX5_predictedAddress) := goodIn_app (goodIn_of _ (by decide +kernel)) ggL_law_X5_predictedAddress
set_option maxRecDepth 20000 in
theorem ggL_law_X4_predictedValue : GoodIn wsL_law wsX4_predictedValue := goodIn_r _ [411, 20, 376, 377, 378, 2, 379, 29, 16, 129, 130, 131, 14, 132, 38, 380, 381, 382, 19, 383, 46, 384, 385, 386, 387, 263, 264, 265, 266, 44, 267, 240, 241, 242, 272, 273, 274, 275, 45, 412, 413, 414, 415, 15, 416, 417, 418, 419, 268, 269, 270, 271, 43, 133, 134, 135, 136, 35, 137, 420, 219, 220, 221, 37, 396, 397, 398, 399, 605, 606, 607, 608, 609, 610, 630, 631, 632, 633, 634, 635, 636] (by decide +kernel) (by decide +kernel)
set_option maxRecDepth 20000 in
theorem gL_law_X4_predictedValue : GoodIn wsL_law (wsV RL 69 RX4 yX4_predictedValue wsX4_predictedValue) := goodIn_app (goodIn_of _ (by decide +kernel)) ggL_law_X4_predictedValue
set_option maxRecDepth 20000 in
theorem ggL_law_X5_predictedValue : GoodIn wsL_law wsX5_predictedValue := goodIn_r _ [424, 83, 76, 146, 147, 148, 5, 149, 124, 113, 114, 115, 425, 426, 427, 428, 70, 69, 429, 430, 431, 432, 73, 74, 404, 405, 406, 407, 294, 611, 612, 613, 614, 615, 616, 617, 618, 619, 620, 621, 622, 623, 624, 625, 626, 627, 628, 629] (by decide +kernel) (by decide +kernel)
set_option maxRecDepth 20000 in
theorem gL_law_X5_predictedValue : GoodIn wsL_law (wsV RL 72 RX5 yX5_predictedValue wsX5_predictedValue) := goodIn_app (goodIn_of _ (by decide +kernel)) ggL_law_X5_predictedValue
set_option maxRecDepth 20000 in
theorem ggL_law_X4_correctionCount : GoodIn wsL_law wsX4_correctionCount := goodIn_r _ [436, 29, 437, 438, 439, 2, 440, 16, 104, 105, 106, 14, 107, 38, 441, 442, 443, 444, 20, 380, 381, 382, 19, 383, 46, 384, 385, 386, 387, 263, 264, 265, 266, 44, 267, 240, 241, 242, 272, 273, 274, 275, 45, 412, 413, 414, 415, 15, 416, 417, 418, 419, 268, 269, 270, 271, 43, 133, 134, 135, 136, 35, 137, 130, 131, 132, 420, 219, 220, 221, 37, 396, 397, 398, 399, 605, 606, 607, 608, 609, 610, 630, 631, 632, 633, 634, 635, 636] (by decide +kernel) (by decide +kernel)
set_option maxRecDepth 20000 in
theorem gL_law_X4_correctionCount : GoodIn wsL_law (wsV RL 73 RX4 yX4_correctionCount wsX4_correctionCount) := goodIn_app (goodIn_of _ (by decide +kernel)) ggL_law_X4_correctionCount
set_option maxRecDepth 20000 in
theorem ggL_law_X5_correctionCount : GoodIn wsL_law wsX5_correctionCount := goodIn_r _ [448, 83, 449, 450, 451, 5, 452, 124, 453, 454, 455, 456, 76, 71, 425, 426, 427, 428, 70, 69, 429, 430, 431, 432, 73, 74, 404, 405, 406, 407, 294, 611, 612, 613, 614, 615, 616, 617, 618, 619, 620, 621, 622, 623, 624, 625, 626, 627, 628, 629] (by decide +kernel) (by decide +kernel)
set_option maxRecDepth 20000 in
theorem gL_law_X5_correctionCount : GoodIn wsL_law (wsV RL 76 RX5 yX5_correctionCount wsX5_correctionCount) := goodIn_app (goodIn_of _ (by decide +kernel)) ggL_law_X5_correctionCount
set_option maxRecDepth 20000 in
theorem ggL_law_X4_correctionIndex : GoodIn wsL_law wsX4_correctionIndex := goodIn_r _ [460, 29, 16, 104, 105, 106, 14, 107, 38, 441, 442, 443, 2, 444, 20, 380, 381, 382, 19, 383, 46, 384, 385, 386, 387, 263, 264, 265, 266, 44, 267, 240, 241, 242, 272, 273, 274, 275, 45, 412, 413, 414, 415, 15, 416, 417, 418, 419, 268, 269, 270, 271, 43, 133, 134, 135, 136, 35, 137, 130, 131, 132, 420, 219, 220, 221, 37, 396, 397, 398, 399, 605, 606, 607, 608, 609, 610, 630, 631, 632, 633, 634, 635, 636] (by decide +kernel) (by decide +kernel)
set_option maxRecDepth 20000 in
theorem gL_law_X4_correctionIndex : GoodIn wsL_law (wsV RL 77 RX4 yX4_correctionIndex wsX4_correctionIndex) := goodIn_app (goodIn_of _ (by decide +kernel)) ggL_law_X4_correctionIndex
set_option maxRecDepth 20000 in
theorem ggL_law_X5_correctionIndex : GoodIn wsL_law wsX5_correctionIndex := goodIn_r _ [464, 83, 124, 453, 454, 455, 5, 456, 76, 71, 425, 426, 427, 428, 70, 69, 429, 430, 431, 432, 73, 74, 404, 405, 406, 407, 294, 611, 612, 613, 614, 615, 616, 617, 618, 619, 620, 621, 622, 623, 624, 625, 626, 627, 628, 629] (by decide +kernel) (by decide +kernel)
set_option maxRecDepth 20000 in
theorem gL_law_X5_correctionIndex : GoodIn wsL_law (wsV RL 80 RX5 yX5_correctionIndex wsX5_correctionIndex) := goodIn_app (goodIn_of _ (by decide +kernel)) ggL_law_X5_correctionIndex
set_option maxRecDepth 20000 in
theorem ggL_law_X4_literalCount : GoodIn wsL_law wsX4_literalCount := goodIn_r _ [468, 29, 469, 470, 471, 2, 472, 16, 20, 104, 105, 106, 14, 107, 38, 289, 244, 245, 19, 246, 46, 367, 273, 274, 275, 45, 267, 240, 241, 242, 605, 606, 607, 608, 609, 610, 630, 631, 632, 633, 634, 635, 636] (by decide +kernel) (by decide +kernel)
set_option maxRecDepth 20000 in
theorem gL_law_X4_literalCount : GoodIn wsL_law (wsV RL 81 RX4 yX4_literalCount wsX4_literalCount) := goodIn_app (goodIn_of _ (by decide +kernel)) ggL_law_X4_literalCount
set_option maxRecDepth 20000 in
theorem ggL_law_X5_literalCount : GoodIn wsL_law wsX5_literalCount := goodIn_r _ [476, 83, 477, 478, 479, 5, 480, 124, 76, 611, 612, 613, 614, 615, 616, 617, 618, 619, 620, 621, 622, 623, 624, 625, 626, 627, 628, 629] (by decide +kernel) (by decide +kernel)
set_option maxRecDepth 20000 in
theorem gL_law_X5_literalCount : GoodIn wsL_law (wsV RL 84 RX5 yX5_literalCount wsX5_literalCount) := goodIn_app (goodIn_of _ (by decide +kernel)) ggL_law_X5_literalCount
set_option maxRecDepth 20000 in
theorem ggL_law_X4_patchSize : GoodIn wsL_law wsX4_patchSize := goodIn_r _ [484, 29, 485, 486, 487, 2, 488, 20, 289, 244, 245, 19, 246, 46, 469, 470, 471, 472, 16, 104, 105, 106, 14, 107, 38, 367, 273, 274, 275, 45, 267, 240, 241, 242, 437, 438, 439, 440, 441, 442, 443, 444, 380, 381, 382, 383, 384, 385, 386, 387, 263, 264, 265, 266, 44, 272, 412, 413, 414, 415, 15, 416, 417, 418, 419, 268, 269, 270, 271, 43, 133, 134, 135, 136, 35, 137, 130, 131, 132, 420, 219, 220, 221, 37, 396, 397, 398, 399, 605, 606, 607, 608, 609, 610, 633, 634, 635, 636, 630, 631, 632] (by decide +kernel) (by decide +kernel)
set_option maxRecDepth 20000 in
theorem gL_law_X4_patchSize : GoodIn wsL_law (wsV RL 85 RX4 yX4_patchSize wsX4_patchSize) := goodIn_app (goodIn_of _ (by decide +kernel)) ggL_law_X4_patchSize
set_option maxRecDepth 20000 in
theorem ggL_law_X5_patchSize : GoodIn wsL_law wsX5_patchSize := goodIn_r _ [492, 83, 294, 477, 478, 479, 5, 480, 124, 76, 449, 450, 451, 452, 453, 454, 455, 456, 71, 425, 426, 427, 428, 70, 69, 429, 430, 431, 432, 73, 74, 404, 405, 406, 407, 611, 612, 613, 614, 615, 616, 617, 618, 619, 620, 621, 622, 623, 624, 625, 626, 627, 628, 629] (by decide +kernel) (by decide +kernel)
set_option maxRecDepth 20000 in
theorem gL_law_X5_patchSize : GoodIn wsL_law (wsV RL 88 RX5 yX5_patchSize wsX5_patchSize) := goodIn_app (goodIn_of _ (by decide +kernel)) ggL_law_X5_patchSize
set_option maxRecDepth 20000 in
theorem ggL_law_X4_unpredictedSize : GoodIn wsL_law wsX4_unpredictedSize := goodIn_r _ [496, 29, 485, 486, 487, 2, 488, 20, 289, 244, 245, 19, 246, 46, 469, 470, 471, 472, 16, 104, 105, 106, 14, 107, 38, 367, 273, 274, 275, 45, 267, 240, 241, 242, 497, 498, 499, 500, 501, 502, 503, 504, 15, 380, 381, 382, 383, 384, 385, 386, 387, 263, 264, 265, 266, 44, 272, 416, 417, 418, 419, 268, 269, 270, 271, 43, 133, 134, 135, 136, 35, 137, 130, 131, 132, 605, 606, 607, 608, 609, 610, 633, 634, 635, 636, 630, 631, 632] (by decide +kernel) (by decide +kernel)
set_option maxRecDepth 20000 in
theorem gL_law_X4_unpredictedSize : GoodIn wsL_law (wsV RL 89 RX4 yX4_unpredictedSize wsX4_unpredictedSize) := goodIn_app (goodIn_of _ (by decide +kernel)) ggL_law_X4_unpredictedSize
set_option maxRecDepth 20000 in
theorem ggL_law_X5_unpredictedSize : GoodIn wsL_law wsX5_unpredictedSize := goodIn_r _ [508, 83, 124, 76, 69, 71, 294, 429, 430, 431, 5, 432, 73, 74, 477, 478, 479, 480, 611, 612, 613, 614, 615, 616, 617, 618, 619, 620, 621, 622, 623, 624, 625, 626, 627, 628, 629] (by decide +kernel) (by decide +kernel)
set_option maxRecDepth 20000 in
theorem gL_law_X5_unpredictedSize : GoodIn wsL_law (wsV RL 92 RX5 yX5_unpredictedSize wsX5_unpredictedSize) := goodIn_app (goodIn_of _ (by decide +kernel)) ggL_law_X5_unpredictedSize
set_option maxRecDepth 20000 in
theorem ggL_law_X4_copyCount : GoodIn wsL_law wsX4_copyCount := goodIn_r _ [512, 29, 28, 513, 514, 515, 27, 516, 64, 605, 606, 607, 608, 609, 610, 643, 644, 645, 646] (by decide +kernel) (by decide +kernel)
set_option maxRecDepth 20000 in
theorem gL_law_X4_copyCount : GoodIn wsL_law (wsV RL 93 RX4 yX4_copyCount wsX4_copyCount) := goodIn_app (goodIn_of _ (by decide +kernel)) ggL_law_X4_copyCount
set_option maxRecDepth 20000 in
theorem ggL_law_X5_copyCount : GoodIn wsL_law wsX5_copyCount := goodIn_r _ [520, 83, 319, 611, 612, 613, 614, 615, 616, 617, 618, 619, 620, 621, 622, 623, 624, 625, 626, 627, 628, 629] (by decide +kernel) (by decide +kernel)
set_option maxRecDepth 20000 in
theorem gL_law_X5_copyCount : GoodIn wsL_law (wsV RL 96 RX5 yX5_copyCount wsX5_copyCount) := goodIn_app (goodIn_of _ (by decide +kernel)) ggL_law_X5_copyCount
set_option maxRecDepth 20000 in
theorem ggL_law_X4_copyStep : GoodIn wsL_law wsX4_copyStep := goodIn_r _ [524, 29, 28, 525, 526, 527, 27, 528, 64, 529, 530, 531, 532, 61, 533, 605, 606, 607, 608, 609, 610, 643, 644, 645, 646] (by decide +kernel) (by decide +kernel)
set_option maxRecDepth 20000 in
theorem gL_law_X4_copyStep : GoodIn wsL_law (wsV RL 97 RX4 yX4_copyStep wsX4_copyStep) := goodIn_app (goodIn_of _ (by decide +kernel)) ggL_law_X4_copyStep
set_option maxRecDepth 20000 in
theorem ggL_law_X5_copyStep : GoodIn wsL_law wsX5_copyStep := goodIn_r _ [537, 83, 319, 79, 113, 114, 5, 115, 611, 612, 613, 614, 615, 616, 617, 618, 619, 620, 621, 622, 623, 624, 625, 626, 627, 628, 629] (by decide +kernel) (by decide +kernel)
set_option maxRecDepth 20000 in
theorem gL_law_X5_copyStep : GoodIn wsL_law (wsV RL 100 RX5 yX5_copyStep wsX5_copyStep) := goodIn_app (goodIn_of _ (by decide +kernel)) ggL_law_X5_copyStep
set_option maxRecDepth 20000 in
theorem ggL_law_X4_isDropped : GoodIn wsL_law wsX4_isDropped := goodIn_r _ [541, 28, 340, 341, 342, 2, 343, 29, 20, 344, 240, 241, 19, 242, 46, 542, 543, 544, 27, 545, 63, 605, 606, 607, 608, 609, 610, 633, 634, 635, 636, 643, 644, 645, 646] (by decide +kernel) (by decide +kernel)
set_option maxRecDepth 20000 in
theorem gL_law_X4_isDropped : GoodIn wsL_law (wsV RL 101 RX4 yX4_isDropped wsX4_isDropped) := goodIn_app (goodIn_of _ (by decide +kernel)) ggL_law_X4_isDropped
set_option maxRecDepth 20000 in
theorem ggL_law_X5_isDropped : GoodIn wsL_law wsX5_isDropped := goodIn_r _ [549, 83, 294, 80, 113, 114, 5, 115, 611, 612, 613, 614, 615, 616, 617, 618, 619, 620, 621, 622, 623, 624, 625, 626, 627, 628, 629] (by decide +kernel) (by decide +kernel)
set_option maxRecDepth 20000 in
theorem gL_law_X5_isDropped : GoodIn wsL_law (wsV RL 104 RX5 yX5_isDropped wsX5_isDropped) := goodIn_app (goodIn_of _ (by decide +kernel)) ggL_law_X5_isDropped
set_option maxRecDepth 20000 in
theorem ggL_law_X4_inPlaceSize : GoodIn wsL_law wsX4_inPlaceSize := goodIn_r _ [553, 29, 28, 16, 513, 514, 515, 27, 516, 64, 104, 105, 106, 14, 107, 38, 554, 555, 556, 2, 557, 558, 559, 560, 561, 20, 380, 381, 382, 19, 383, 46, 384, 385, 386, 387, 263, 264, 265, 266, 44, 267, 240, 241, 242, 272, 273, 274, 275, 45, 542, 543, 544, 545, 63, 441, 442, 443, 444, 412, 413, 414, 415, 15, 416, 417, 418, 419, 268, 269, 270, 271, 43, 133, 134, 135, 136, 35, 137, 130, 131, 132, 420, 219, 220, 221, 37, 396, 397, 398, 399, 605, 606, 607, 608, 609, 610, 643, 644, 645, 646, 630, 631, 632, 633, 634, 635, 636] (by decide +kernel) (by decide +kernel)
set_option maxRecDepth 20000 in
theorem gL_law_X4_inPlaceSize : GoodIn wsL_law (wsV RL 105 RX4 yX4_inPlaceSize wsX4_inPlaceSize) := goodIn_app (goodIn_of _ (by decide +kernel)) ggL_law_X4_inPlaceSize
set_option maxRecDepth 20000 in
theorem ggL_law_X5_inPlaceSize : GoodIn wsL_law wsX5_inPlaceSize := goodIn_r _ [565, 83, 319, 124, 566, 567, 568, 5, 569, 76, 80, 453, 454, 455, 456, 71, 425, 426, 427, 428, 70, 69, 429, 430, 431, 432, 73, 74, 404, 405, 406, 407, 294, 611, 612, 613, 614, 615, 616, 617, 618, 619, 620, 621, 622, 623, 624, 625, 626, 627, 628, 629] (by decide +kernel) (by decide +kernel)
set_option maxRecDepth 20000 in
theorem gL_law_X5_inPlaceSize : GoodIn wsL_law (wsV RL 108 RX5 yX5_inPlaceSize wsX5_inPlaceSize) := goodIn_app (goodIn_of _ (by decide +kernel)) ggL_law_X5_inPlaceSize
set_option maxRecDepth 20000 in
theorem ggL_law_X4_memoryAfter : GoodIn wsL_law wsX4_memoryAfter := goodIn_r _ [573, 29, 28, 15, 16, 574, 575, 576, 577, 513, 514, 515, 27, 516, 64, 104, 105, 106, 14, 107, 38, 578, 579, 580, 2, 581, 20, 582, 583, 584, 585, 586, 530, 531, 532, 61, 533, 526, 527, 528, 587, 385, 386, 19, 387, 263, 264, 265, 266, 44, 267, 240, 241, 242, 46, 272, 273, 274, 275, 45, 588, 417, 418, 419, 268, 269, 270, 271, 43, 133, 134, 135, 136, 35, 137, 130, 131, 132, 605, 606, 607, 608, 609, 610, 643, 644, 645, 646, 630, 631, 632, 633, 634, 635, 636] (by decide +kernel) (by decide +kernel)
set_option maxRecDepth 20000 in
theorem gL_law_X4_memoryAfter : GoodIn wsL_law (wsV RL 109 RX4 yX4_memoryAfter wsX4_memoryAfter) := goodIn_app (goodIn_of _ (by decide +kernel)) ggL_law_X4_memoryAfter
set_option maxRecDepth 20000 in
theorem ggL_law_X5_memoryAfter : GoodIn wsL_law wsX5_memoryAfter := goodIn_r _ [592, 83, 319, 112, 124, 81, 113, 114, 5, 115, 593, 594, 595, 596, 69, 79, 75, 82, 73, 74, 611, 612, 613, 614, 615, 616, 617, 618, 619, 620, 621, 622, 623, 624, 625, 626, 627, 628, 629] (by decide +kernel) (by decide +kernel)
set_option maxRecDepth 20000 in
theorem gL_law_X5_memoryAfter : GoodIn wsL_law (wsV RL 112 RX5 yX5_memoryAfter wsX5_memoryAfter) := goodIn_app (goodIn_of _ (by decide +kernel)) ggL_law_X5_memoryAfter
set_option maxRecDepth 20000 in
theorem ggL_law_X4_patchedValue : GoodIn wsL_law wsX4_patchedValue := goodIn_r _ [600, 16, 28, 20, 15, 376, 377, 378, 2, 379, 29, 129, 130, 131, 14, 132, 38, 558, 559, 560, 561, 380, 381, 382, 19, 383, 46, 384, 385, 386, 387, 263, 264, 265, 266, 44, 267, 240, 241, 242, 272, 273, 274, 275, 45, 542, 543, 544, 27, 545, 63, 441, 442, 443, 444, 412, 413, 414, 415, 416, 417, 418, 419, 268, 269, 270, 271, 43, 133, 134, 135, 136, 35, 137, 420, 219, 220, 221, 37, 396, 397, 398, 399, 513, 514, 515, 516, 64, 578, 579, 580, 581, 582, 583, 584, 585, 586, 530, 531, 532, 61, 533, 526, 527, 528, 587, 588, 605, 606, 607, 608, 609, 610, 630, 631, 632, 633, 634, 635, 636, 643, 644, 645, 646] (by decide +kernel) (by decide +kernel)
set_option maxRecDepth 20000 in
theorem gL_law_X4_patchedValue : GoodIn wsL_law (wsV RL 113 RX4 yX4_patchedValue wsX4_patchedValue) := goodIn_app (goodIn_of _ (by decide +kernel)) ggL_law_X4_patchedValue
set_option maxRecDepth 20000 in
theorem ggL_law_X5_patchedValue : GoodIn wsL_law wsX5_patchedValue := goodIn_r _ [604, 83, 71, 319, 70, 81, 146, 147, 148, 5, 149, 124, 113, 114, 115, 566, 567, 568, 569, 76, 80, 453, 454, 455, 456, 425, 426, 427, 428, 69, 429, 430, 431, 432, 73, 74, 404, 405, 406, 407, 294, 593, 594, 595, 596, 112, 79, 75, 82, 611, 612, 613, 614, 615, 616, 617, 618, 619, 620, 621, 622, 623, 624, 625, 626, 627, 628, 629] (by decide +kernel) (by decide +kernel)
set_option maxRecDepth 20000 in
theorem gL_law_X5_patchedValue : GoodIn wsL_law (wsV RL 116 RX5 yX5_patchedValue wsX5_patchedValue) := goodIn_app (goodIn_of _ (by decide +kernel)) ggL_law_X5_patchedValue
theorem dL_law_0 : decode cL_law 0 = .ok (.new 7, 3) := by decide +kernel
theorem dL_law_3 : decode cL_law 3 = .ok (.dup, 1) := by decide +kernel
theorem dL_law_4 : decode cL_law 4 = .ok (.invokespecial 9, 3) := by decide +kernel
theorem dL_law_7 : decode cL_law 7 = .ok (.astore_n 1, 1) := by decide +kernel
theorem dL_law_8 : decode cL_law 8 = .ok (.new 10, 3) := by decide +kernel
theorem dL_law_11 : decode cL_law 11 = .ok (.dup, 1) := by decide +kernel
theorem dL_law_12 : decode cL_law 12 = .ok (.invokespecial 12, 3) := by decide +kernel
theorem dL_law_15 : decode cL_law 15 = .ok (.astore_n 2, 1) := by decide +kernel
theorem dL_law_16 : decode cL_law 16 = .ok (.iconst 0, 1) := by decide +kernel
theorem dL_law_17 : decode cL_law 17 = .ok (.istore_n 3, 1) := by decide +kernel
theorem dL_law_18 : decode cL_law 18 = .ok (.iload_n 3, 1) := by decide +kernel
theorem dL_law_19 : decode cL_law 19 = .ok (.aload_n 0, 1) := by decide +kernel
theorem dL_law_20 : decode cL_law 20 = .ok (.arraylength, 1) := by decide +kernel
theorem dL_law_21 : decode cL_law 21 = .ok (.iconst 3, 1) := by decide +kernel
theorem dL_law_22 : decode cL_law 22 = .ok (.isub, 1) := by decide +kernel
theorem dL_law_23 : decode cL_law 23 = .ok (.if_icmp .gt 688, 3) := by decide +kernel
theorem dL_law_26 : decode cL_law 26 = .ok (.aload_n 0, 1) := by decide +kernel
theorem dL_law_27 : decode cL_law 27 = .ok (.iload_n 3, 1) := by decide +kernel
theorem dL_law_28 : decode cL_law 28 = .ok (.iaload, 1) := by decide +kernel
theorem dL_law_29 : decode cL_law 29 = .ok (.bipush 31, 2) := by decide +kernel
theorem dL_law_31 : decode cL_law 31 = .ok (.iand, 1) := by decide +kernel
theorem dL_law_32 : decode cL_law 32 = .ok (.tableswitch 673 0 24 #[116, 165, 214, 247, 260, 273, 286, 309, 332, 355, 378, 401, 424, 447, 470, 483, 506, 519, 532, 545, 558, 581, 604, 617, 650], 116) := by decide +kernel
theorem dL_law_148 : decode cL_law 148 = .ok (.aload_n 1, 1) := by decide +kernel
theorem dL_law_149 : decode cL_law 149 = .ok (.aload_n 0, 1) := by decide +kernel
theorem dL_law_150 : decode cL_law 150 = .ok (.iload_n 3, 1) := by decide +kernel
theorem dL_law_151 : decode cL_law 151 = .ok (.iconst 1, 1) := by decide +kernel
theorem dL_law_152 : decode cL_law 152 = .ok (.iadd, 1) := by decide +kernel
theorem dL_law_153 : decode cL_law 153 = .ok (.iaload, 1) := by decide +kernel
theorem dL_law_154 : decode cL_law 154 = .ok (.aload_n 0, 1) := by decide +kernel
theorem dL_law_155 : decode cL_law 155 = .ok (.iload_n 3, 1) := by decide +kernel
theorem dL_law_156 : decode cL_law 156 = .ok (.iconst 2, 1) := by decide +kernel
theorem dL_law_157 : decode cL_law 157 = .ok (.iadd, 1) := by decide +kernel
theorem dL_law_158 : decode cL_law 158 = .ok (.iaload, 1) := by decide +kernel
theorem dL_law_159 : decode cL_law 159 = .ok (.ifCond .eq 7, 3) := by decide +kernel
theorem dL_law_162 : decode cL_law 162 = .ok (.iconst 1, 1) := by decide +kernel
theorem dL_law_163 : decode cL_law 163 = .ok (.goto 4, 3) := by decide +kernel
theorem dL_law_166 : decode cL_law 166 = .ok (.iconst 0, 1) := by decide +kernel
theorem dL_law_167 : decode cL_law 167 = .ok (.invokevirtual 13, 3) := by decide +kernel
theorem dL_law_170 : decode cL_law 170 = .ok (.aload_n 2, 1) := by decide +kernel
theorem dL_law_171 : decode cL_law 171 = .ok (.aload_n 0, 1) := by decide +kernel
theorem dL_law_172 : decode cL_law 172 = .ok (.iload_n 3, 1) := by decide +kernel
theorem dL_law_173 : decode cL_law 173 = .ok (.iconst 1, 1) := by decide +kernel
theorem dL_law_174 : decode cL_law 174 = .ok (.iadd, 1) := by decide +kernel
theorem dL_law_175 : decode cL_law 175 = .ok (.iaload, 1) := by decide +kernel
theorem dL_law_176 : decode cL_law 176 = .ok (.aload_n 0, 1) := by decide +kernel
theorem dL_law_177 : decode cL_law 177 = .ok (.iload_n 3, 1) := by decide +kernel
theorem dL_law_178 : decode cL_law 178 = .ok (.iconst 2, 1) := by decide +kernel
theorem dL_law_179 : decode cL_law 179 = .ok (.iadd, 1) := by decide +kernel
theorem dL_law_180 : decode cL_law 180 = .ok (.iaload, 1) := by decide +kernel
theorem dL_law_181 : decode cL_law 181 = .ok (.ifCond .eq 7, 3) := by decide +kernel
theorem dL_law_184 : decode cL_law 184 = .ok (.iconst 1, 1) := by decide +kernel
theorem dL_law_185 : decode cL_law 185 = .ok (.goto 4, 3) := by decide +kernel
theorem dL_law_188 : decode cL_law 188 = .ok (.iconst 0, 1) := by decide +kernel
theorem dL_law_189 : decode cL_law 189 = .ok (.invokevirtual 17, 3) := by decide +kernel
theorem dL_law_192 : decode cL_law 192 = .ok (.if_icmp .eq 513, 3) := by decide +kernel
theorem dL_law_195 : decode cL_law 195 = .ok (.iconst 0, 1) := by decide +kernel
theorem dL_law_196 : decode cL_law 196 = .ok (.ireturn, 1) := by decide +kernel
theorem dL_law_197 : decode cL_law 197 = .ok (.aload_n 1, 1) := by decide +kernel
theorem dL_law_198 : decode cL_law 198 = .ok (.aload_n 0, 1) := by decide +kernel
theorem dL_law_199 : decode cL_law 199 = .ok (.iload_n 3, 1) := by decide +kernel
theorem dL_law_200 : decode cL_law 200 = .ok (.iconst 1, 1) := by decide +kernel
theorem dL_law_201 : decode cL_law 201 = .ok (.iadd, 1) := by decide +kernel
theorem dL_law_202 : decode cL_law 202 = .ok (.iaload, 1) := by decide +kernel
theorem dL_law_203 : decode cL_law 203 = .ok (.aload_n 0, 1) := by decide +kernel
theorem dL_law_204 : decode cL_law 204 = .ok (.iload_n 3, 1) := by decide +kernel
theorem dL_law_205 : decode cL_law 205 = .ok (.iconst 2, 1) := by decide +kernel
theorem dL_law_206 : decode cL_law 206 = .ok (.iadd, 1) := by decide +kernel
theorem dL_law_207 : decode cL_law 207 = .ok (.iaload, 1) := by decide +kernel
theorem dL_law_208 : decode cL_law 208 = .ok (.ifCond .eq 7, 3) := by decide +kernel
theorem dL_law_211 : decode cL_law 211 = .ok (.iconst 1, 1) := by decide +kernel
theorem dL_law_212 : decode cL_law 212 = .ok (.goto 4, 3) := by decide +kernel
theorem dL_law_215 : decode cL_law 215 = .ok (.iconst 0, 1) := by decide +kernel
theorem dL_law_216 : decode cL_law 216 = .ok (.invokevirtual 18, 3) := by decide +kernel
theorem dL_law_219 : decode cL_law 219 = .ok (.aload_n 2, 1) := by decide +kernel
theorem dL_law_220 : decode cL_law 220 = .ok (.aload_n 0, 1) := by decide +kernel
theorem dL_law_221 : decode cL_law 221 = .ok (.iload_n 3, 1) := by decide +kernel
theorem dL_law_222 : decode cL_law 222 = .ok (.iconst 1, 1) := by decide +kernel
theorem dL_law_223 : decode cL_law 223 = .ok (.iadd, 1) := by decide +kernel
theorem dL_law_224 : decode cL_law 224 = .ok (.iaload, 1) := by decide +kernel
theorem dL_law_225 : decode cL_law 225 = .ok (.aload_n 0, 1) := by decide +kernel
theorem dL_law_226 : decode cL_law 226 = .ok (.iload_n 3, 1) := by decide +kernel
theorem dL_law_227 : decode cL_law 227 = .ok (.iconst 2, 1) := by decide +kernel
theorem dL_law_228 : decode cL_law 228 = .ok (.iadd, 1) := by decide +kernel
theorem dL_law_229 : decode cL_law 229 = .ok (.iaload, 1) := by decide +kernel
theorem dL_law_230 : decode cL_law 230 = .ok (.ifCond .eq 7, 3) := by decide +kernel
theorem dL_law_233 : decode cL_law 233 = .ok (.iconst 1, 1) := by decide +kernel
theorem dL_law_234 : decode cL_law 234 = .ok (.goto 4, 3) := by decide +kernel
theorem dL_law_237 : decode cL_law 237 = .ok (.iconst 0, 1) := by decide +kernel
theorem dL_law_238 : decode cL_law 238 = .ok (.invokevirtual 21, 3) := by decide +kernel
theorem dL_law_241 : decode cL_law 241 = .ok (.if_icmp .eq 464, 3) := by decide +kernel
theorem dL_law_244 : decode cL_law 244 = .ok (.iconst 0, 1) := by decide +kernel
theorem dL_law_245 : decode cL_law 245 = .ok (.ireturn, 1) := by decide +kernel
theorem dL_law_246 : decode cL_law 246 = .ok (.aload_n 1, 1) := by decide +kernel
theorem dL_law_247 : decode cL_law 247 = .ok (.aload_n 0, 1) := by decide +kernel
theorem dL_law_248 : decode cL_law 248 = .ok (.iload_n 3, 1) := by decide +kernel
theorem dL_law_249 : decode cL_law 249 = .ok (.iconst 1, 1) := by decide +kernel
theorem dL_law_250 : decode cL_law 250 = .ok (.iadd, 1) := by decide +kernel
theorem dL_law_251 : decode cL_law 251 = .ok (.iaload, 1) := by decide +kernel
theorem dL_law_252 : decode cL_law 252 = .ok (.aload_n 0, 1) := by decide +kernel
theorem dL_law_253 : decode cL_law 253 = .ok (.iload_n 3, 1) := by decide +kernel
theorem dL_law_254 : decode cL_law 254 = .ok (.iconst 2, 1) := by decide +kernel
theorem dL_law_255 : decode cL_law 255 = .ok (.iadd, 1) := by decide +kernel
theorem dL_law_256 : decode cL_law 256 = .ok (.iaload, 1) := by decide +kernel
theorem dL_law_257 : decode cL_law 257 = .ok (.invokevirtual 22, 3) := by decide +kernel
theorem dL_law_260 : decode cL_law 260 = .ok (.aload_n 2, 1) := by decide +kernel
theorem dL_law_261 : decode cL_law 261 = .ok (.aload_n 0, 1) := by decide +kernel
theorem dL_law_262 : decode cL_law 262 = .ok (.iload_n 3, 1) := by decide +kernel
theorem dL_law_263 : decode cL_law 263 = .ok (.iconst 1, 1) := by decide +kernel
theorem dL_law_264 : decode cL_law 264 = .ok (.iadd, 1) := by decide +kernel
theorem dL_law_265 : decode cL_law 265 = .ok (.iaload, 1) := by decide +kernel
theorem dL_law_266 : decode cL_law 266 = .ok (.aload_n 0, 1) := by decide +kernel
theorem dL_law_267 : decode cL_law 267 = .ok (.iload_n 3, 1) := by decide +kernel
theorem dL_law_268 : decode cL_law 268 = .ok (.iconst 2, 1) := by decide +kernel
theorem dL_law_269 : decode cL_law 269 = .ok (.iadd, 1) := by decide +kernel
theorem dL_law_270 : decode cL_law 270 = .ok (.iaload, 1) := by decide +kernel
theorem dL_law_271 : decode cL_law 271 = .ok (.invokevirtual 26, 3) := by decide +kernel
theorem dL_law_274 : decode cL_law 274 = .ok (.if_icmp .eq 431, 3) := by decide +kernel
theorem dL_law_277 : decode cL_law 277 = .ok (.iconst 0, 1) := by decide +kernel
theorem dL_law_278 : decode cL_law 278 = .ok (.ireturn, 1) := by decide +kernel
theorem dL_law_279 : decode cL_law 279 = .ok (.aload_n 1, 1) := by decide +kernel
theorem dL_law_280 : decode cL_law 280 = .ok (.invokevirtual 27, 3) := by decide +kernel
theorem dL_law_283 : decode cL_law 283 = .ok (.aload_n 2, 1) := by decide +kernel
theorem dL_law_284 : decode cL_law 284 = .ok (.invokevirtual 31, 3) := by decide +kernel
theorem dL_law_287 : decode cL_law 287 = .ok (.if_icmp .eq 418, 3) := by decide +kernel
theorem dL_law_290 : decode cL_law 290 = .ok (.iconst 0, 1) := by decide +kernel
theorem dL_law_291 : decode cL_law 291 = .ok (.ireturn, 1) := by decide +kernel
theorem dL_law_292 : decode cL_law 292 = .ok (.aload_n 1, 1) := by decide +kernel
theorem dL_law_293 : decode cL_law 293 = .ok (.invokevirtual 32, 3) := by decide +kernel
theorem dL_law_296 : decode cL_law 296 = .ok (.aload_n 2, 1) := by decide +kernel
theorem dL_law_297 : decode cL_law 297 = .ok (.invokevirtual 35, 3) := by decide +kernel
theorem dL_law_300 : decode cL_law 300 = .ok (.if_icmp .eq 405, 3) := by decide +kernel
theorem dL_law_303 : decode cL_law 303 = .ok (.iconst 0, 1) := by decide +kernel
theorem dL_law_304 : decode cL_law 304 = .ok (.ireturn, 1) := by decide +kernel
theorem dL_law_305 : decode cL_law 305 = .ok (.aload_n 1, 1) := by decide +kernel
theorem dL_law_306 : decode cL_law 306 = .ok (.invokevirtual 36, 3) := by decide +kernel
theorem dL_law_309 : decode cL_law 309 = .ok (.aload_n 2, 1) := by decide +kernel
theorem dL_law_310 : decode cL_law 310 = .ok (.invokevirtual 39, 3) := by decide +kernel
theorem dL_law_313 : decode cL_law 313 = .ok (.if_icmp .eq 392, 3) := by decide +kernel
theorem dL_law_316 : decode cL_law 316 = .ok (.iconst 0, 1) := by decide +kernel
theorem dL_law_317 : decode cL_law 317 = .ok (.ireturn, 1) := by decide +kernel
theorem dL_law_318 : decode cL_law 318 = .ok (.aload_n 1, 1) := by decide +kernel
theorem dL_law_319 : decode cL_law 319 = .ok (.aload_n 0, 1) := by decide +kernel
theorem dL_law_320 : decode cL_law 320 = .ok (.iload_n 3, 1) := by decide +kernel
theorem dL_law_321 : decode cL_law 321 = .ok (.iconst 1, 1) := by decide +kernel
theorem dL_law_322 : decode cL_law 322 = .ok (.iadd, 1) := by decide +kernel
theorem dL_law_323 : decode cL_law 323 = .ok (.iaload, 1) := by decide +kernel
theorem dL_law_324 : decode cL_law 324 = .ok (.invokevirtual 40, 3) := by decide +kernel
theorem dL_law_327 : decode cL_law 327 = .ok (.aload_n 2, 1) := by decide +kernel
theorem dL_law_328 : decode cL_law 328 = .ok (.aload_n 0, 1) := by decide +kernel
theorem dL_law_329 : decode cL_law 329 = .ok (.iload_n 3, 1) := by decide +kernel
theorem dL_law_330 : decode cL_law 330 = .ok (.iconst 1, 1) := by decide +kernel
theorem dL_law_331 : decode cL_law 331 = .ok (.iadd, 1) := by decide +kernel
theorem dL_law_332 : decode cL_law 332 = .ok (.iaload, 1) := by decide +kernel
theorem dL_law_333 : decode cL_law 333 = .ok (.invokevirtual 44, 3) := by decide +kernel
theorem dL_law_336 : decode cL_law 336 = .ok (.if_icmp .eq 369, 3) := by decide +kernel
theorem dL_law_339 : decode cL_law 339 = .ok (.iconst 0, 1) := by decide +kernel
theorem dL_law_340 : decode cL_law 340 = .ok (.ireturn, 1) := by decide +kernel
theorem dL_law_341 : decode cL_law 341 = .ok (.aload_n 1, 1) := by decide +kernel
theorem dL_law_342 : decode cL_law 342 = .ok (.aload_n 0, 1) := by decide +kernel
theorem dL_law_343 : decode cL_law 343 = .ok (.iload_n 3, 1) := by decide +kernel
theorem dL_law_344 : decode cL_law 344 = .ok (.iconst 1, 1) := by decide +kernel
theorem dL_law_345 : decode cL_law 345 = .ok (.iadd, 1) := by decide +kernel
theorem dL_law_346 : decode cL_law 346 = .ok (.iaload, 1) := by decide +kernel
theorem dL_law_347 : decode cL_law 347 = .ok (.invokevirtual 45, 3) := by decide +kernel
theorem dL_law_350 : decode cL_law 350 = .ok (.aload_n 2, 1) := by decide +kernel
theorem dL_law_351 : decode cL_law 351 = .ok (.aload_n 0, 1) := by decide +kernel
theorem dL_law_352 : decode cL_law 352 = .ok (.iload_n 3, 1) := by decide +kernel
theorem dL_law_353 : decode cL_law 353 = .ok (.iconst 1, 1) := by decide +kernel
theorem dL_law_354 : decode cL_law 354 = .ok (.iadd, 1) := by decide +kernel
theorem dL_law_355 : decode cL_law 355 = .ok (.iaload, 1) := by decide +kernel
theorem dL_law_356 : decode cL_law 356 = .ok (.invokevirtual 48, 3) := by decide +kernel
theorem dL_law_359 : decode cL_law 359 = .ok (.if_icmp .eq 346, 3) := by decide +kernel
theorem dL_law_362 : decode cL_law 362 = .ok (.iconst 0, 1) := by decide +kernel
theorem dL_law_363 : decode cL_law 363 = .ok (.ireturn, 1) := by decide +kernel
theorem dL_law_364 : decode cL_law 364 = .ok (.aload_n 1, 1) := by decide +kernel
theorem dL_law_365 : decode cL_law 365 = .ok (.aload_n 0, 1) := by decide +kernel
theorem dL_law_366 : decode cL_law 366 = .ok (.iload_n 3, 1) := by decide +kernel
theorem dL_law_367 : decode cL_law 367 = .ok (.iconst 1, 1) := by decide +kernel
theorem dL_law_368 : decode cL_law 368 = .ok (.iadd, 1) := by decide +kernel
theorem dL_law_369 : decode cL_law 369 = .ok (.iaload, 1) := by decide +kernel
theorem dL_law_370 : decode cL_law 370 = .ok (.invokevirtual 49, 3) := by decide +kernel
theorem dL_law_373 : decode cL_law 373 = .ok (.aload_n 2, 1) := by decide +kernel
theorem dL_law_374 : decode cL_law 374 = .ok (.aload_n 0, 1) := by decide +kernel
theorem dL_law_375 : decode cL_law 375 = .ok (.iload_n 3, 1) := by decide +kernel
theorem dL_law_376 : decode cL_law 376 = .ok (.iconst 1, 1) := by decide +kernel
theorem dL_law_377 : decode cL_law 377 = .ok (.iadd, 1) := by decide +kernel
theorem dL_law_378 : decode cL_law 378 = .ok (.iaload, 1) := by decide +kernel
theorem dL_law_379 : decode cL_law 379 = .ok (.invokevirtual 52, 3) := by decide +kernel
theorem dL_law_382 : decode cL_law 382 = .ok (.if_icmp .eq 323, 3) := by decide +kernel
theorem dL_law_385 : decode cL_law 385 = .ok (.iconst 0, 1) := by decide +kernel
theorem dL_law_386 : decode cL_law 386 = .ok (.ireturn, 1) := by decide +kernel
theorem dL_law_387 : decode cL_law 387 = .ok (.aload_n 1, 1) := by decide +kernel
theorem dL_law_388 : decode cL_law 388 = .ok (.aload_n 0, 1) := by decide +kernel
theorem dL_law_389 : decode cL_law 389 = .ok (.iload_n 3, 1) := by decide +kernel
theorem dL_law_390 : decode cL_law 390 = .ok (.iconst 1, 1) := by decide +kernel
theorem dL_law_391 : decode cL_law 391 = .ok (.iadd, 1) := by decide +kernel
theorem dL_law_392 : decode cL_law 392 = .ok (.iaload, 1) := by decide +kernel
theorem dL_law_393 : decode cL_law 393 = .ok (.invokevirtual 53, 3) := by decide +kernel
theorem dL_law_396 : decode cL_law 396 = .ok (.aload_n 2, 1) := by decide +kernel
theorem dL_law_397 : decode cL_law 397 = .ok (.aload_n 0, 1) := by decide +kernel
theorem dL_law_398 : decode cL_law 398 = .ok (.iload_n 3, 1) := by decide +kernel
theorem dL_law_399 : decode cL_law 399 = .ok (.iconst 1, 1) := by decide +kernel
theorem dL_law_400 : decode cL_law 400 = .ok (.iadd, 1) := by decide +kernel
theorem dL_law_401 : decode cL_law 401 = .ok (.iaload, 1) := by decide +kernel
theorem dL_law_402 : decode cL_law 402 = .ok (.invokevirtual 56, 3) := by decide +kernel
theorem dL_law_405 : decode cL_law 405 = .ok (.if_icmp .eq 300, 3) := by decide +kernel
theorem dL_law_408 : decode cL_law 408 = .ok (.iconst 0, 1) := by decide +kernel
theorem dL_law_409 : decode cL_law 409 = .ok (.ireturn, 1) := by decide +kernel
theorem dL_law_410 : decode cL_law 410 = .ok (.aload_n 1, 1) := by decide +kernel
theorem dL_law_411 : decode cL_law 411 = .ok (.aload_n 0, 1) := by decide +kernel
theorem dL_law_412 : decode cL_law 412 = .ok (.iload_n 3, 1) := by decide +kernel
theorem dL_law_413 : decode cL_law 413 = .ok (.iconst 1, 1) := by decide +kernel
theorem dL_law_414 : decode cL_law 414 = .ok (.iadd, 1) := by decide +kernel
theorem dL_law_415 : decode cL_law 415 = .ok (.iaload, 1) := by decide +kernel
theorem dL_law_416 : decode cL_law 416 = .ok (.invokevirtual 57, 3) := by decide +kernel
theorem dL_law_419 : decode cL_law 419 = .ok (.aload_n 2, 1) := by decide +kernel
theorem dL_law_420 : decode cL_law 420 = .ok (.aload_n 0, 1) := by decide +kernel
theorem dL_law_421 : decode cL_law 421 = .ok (.iload_n 3, 1) := by decide +kernel
theorem dL_law_422 : decode cL_law 422 = .ok (.iconst 1, 1) := by decide +kernel
theorem dL_law_423 : decode cL_law 423 = .ok (.iadd, 1) := by decide +kernel
theorem dL_law_424 : decode cL_law 424 = .ok (.iaload, 1) := by decide +kernel
theorem dL_law_425 : decode cL_law 425 = .ok (.invokevirtual 60, 3) := by decide +kernel
theorem dL_law_428 : decode cL_law 428 = .ok (.if_icmp .eq 277, 3) := by decide +kernel
theorem dL_law_431 : decode cL_law 431 = .ok (.iconst 0, 1) := by decide +kernel
theorem dL_law_432 : decode cL_law 432 = .ok (.ireturn, 1) := by decide +kernel
theorem dL_law_433 : decode cL_law 433 = .ok (.aload_n 1, 1) := by decide +kernel
theorem dL_law_434 : decode cL_law 434 = .ok (.aload_n 0, 1) := by decide +kernel
theorem dL_law_435 : decode cL_law 435 = .ok (.iload_n 3, 1) := by decide +kernel
theorem dL_law_436 : decode cL_law 436 = .ok (.iconst 1, 1) := by decide +kernel
theorem dL_law_437 : decode cL_law 437 = .ok (.iadd, 1) := by decide +kernel
theorem dL_law_438 : decode cL_law 438 = .ok (.iaload, 1) := by decide +kernel
theorem dL_law_439 : decode cL_law 439 = .ok (.invokevirtual 61, 3) := by decide +kernel
theorem dL_law_442 : decode cL_law 442 = .ok (.aload_n 2, 1) := by decide +kernel
theorem dL_law_443 : decode cL_law 443 = .ok (.aload_n 0, 1) := by decide +kernel
theorem dL_law_444 : decode cL_law 444 = .ok (.iload_n 3, 1) := by decide +kernel
theorem dL_law_445 : decode cL_law 445 = .ok (.iconst 1, 1) := by decide +kernel
theorem dL_law_446 : decode cL_law 446 = .ok (.iadd, 1) := by decide +kernel
theorem dL_law_447 : decode cL_law 447 = .ok (.iaload, 1) := by decide +kernel
theorem dL_law_448 : decode cL_law 448 = .ok (.invokevirtual 64, 3) := by decide +kernel
theorem dL_law_451 : decode cL_law 451 = .ok (.if_icmp .eq 254, 3) := by decide +kernel
theorem dL_law_454 : decode cL_law 454 = .ok (.iconst 0, 1) := by decide +kernel
theorem dL_law_455 : decode cL_law 455 = .ok (.ireturn, 1) := by decide +kernel
theorem dL_law_456 : decode cL_law 456 = .ok (.aload_n 1, 1) := by decide +kernel
theorem dL_law_457 : decode cL_law 457 = .ok (.aload_n 0, 1) := by decide +kernel
theorem dL_law_458 : decode cL_law 458 = .ok (.iload_n 3, 1) := by decide +kernel
theorem dL_law_459 : decode cL_law 459 = .ok (.iconst 1, 1) := by decide +kernel
theorem dL_law_460 : decode cL_law 460 = .ok (.iadd, 1) := by decide +kernel
theorem dL_law_461 : decode cL_law 461 = .ok (.iaload, 1) := by decide +kernel
theorem dL_law_462 : decode cL_law 462 = .ok (.invokevirtual 65, 3) := by decide +kernel
theorem dL_law_465 : decode cL_law 465 = .ok (.aload_n 2, 1) := by decide +kernel
theorem dL_law_466 : decode cL_law 466 = .ok (.aload_n 0, 1) := by decide +kernel
theorem dL_law_467 : decode cL_law 467 = .ok (.iload_n 3, 1) := by decide +kernel
theorem dL_law_468 : decode cL_law 468 = .ok (.iconst 1, 1) := by decide +kernel
theorem dL_law_469 : decode cL_law 469 = .ok (.iadd, 1) := by decide +kernel
theorem dL_law_470 : decode cL_law 470 = .ok (.iaload, 1) := by decide +kernel
theorem dL_law_471 : decode cL_law 471 = .ok (.invokevirtual 68, 3) := by decide +kernel
theorem dL_law_474 : decode cL_law 474 = .ok (.if_icmp .eq 231, 3) := by decide +kernel
theorem dL_law_477 : decode cL_law 477 = .ok (.iconst 0, 1) := by decide +kernel
theorem dL_law_478 : decode cL_law 478 = .ok (.ireturn, 1) := by decide +kernel
theorem dL_law_479 : decode cL_law 479 = .ok (.aload_n 1, 1) := by decide +kernel
theorem dL_law_480 : decode cL_law 480 = .ok (.aload_n 0, 1) := by decide +kernel
theorem dL_law_481 : decode cL_law 481 = .ok (.iload_n 3, 1) := by decide +kernel
theorem dL_law_482 : decode cL_law 482 = .ok (.iconst 1, 1) := by decide +kernel
theorem dL_law_483 : decode cL_law 483 = .ok (.iadd, 1) := by decide +kernel
theorem dL_law_484 : decode cL_law 484 = .ok (.iaload, 1) := by decide +kernel
theorem dL_law_485 : decode cL_law 485 = .ok (.invokevirtual 69, 3) := by decide +kernel
theorem dL_law_488 : decode cL_law 488 = .ok (.aload_n 2, 1) := by decide +kernel
theorem dL_law_489 : decode cL_law 489 = .ok (.aload_n 0, 1) := by decide +kernel
theorem dL_law_490 : decode cL_law 490 = .ok (.iload_n 3, 1) := by decide +kernel
theorem dL_law_491 : decode cL_law 491 = .ok (.iconst 1, 1) := by decide +kernel
theorem dL_law_492 : decode cL_law 492 = .ok (.iadd, 1) := by decide +kernel
theorem dL_law_493 : decode cL_law 493 = .ok (.iaload, 1) := by decide +kernel
theorem dL_law_494 : decode cL_law 494 = .ok (.invokevirtual 72, 3) := by decide +kernel
theorem dL_law_497 : decode cL_law 497 = .ok (.if_icmp .eq 208, 3) := by decide +kernel
theorem dL_law_500 : decode cL_law 500 = .ok (.iconst 0, 1) := by decide +kernel
theorem dL_law_501 : decode cL_law 501 = .ok (.ireturn, 1) := by decide +kernel
theorem dL_law_502 : decode cL_law 502 = .ok (.aload_n 1, 1) := by decide +kernel
theorem dL_law_503 : decode cL_law 503 = .ok (.invokevirtual 73, 3) := by decide +kernel
theorem dL_law_506 : decode cL_law 506 = .ok (.aload_n 2, 1) := by decide +kernel
theorem dL_law_507 : decode cL_law 507 = .ok (.invokevirtual 76, 3) := by decide +kernel
theorem dL_law_510 : decode cL_law 510 = .ok (.if_icmp .eq 195, 3) := by decide +kernel
theorem dL_law_513 : decode cL_law 513 = .ok (.iconst 0, 1) := by decide +kernel
theorem dL_law_514 : decode cL_law 514 = .ok (.ireturn, 1) := by decide +kernel
theorem dL_law_515 : decode cL_law 515 = .ok (.aload_n 1, 1) := by decide +kernel
theorem dL_law_516 : decode cL_law 516 = .ok (.aload_n 0, 1) := by decide +kernel
theorem dL_law_517 : decode cL_law 517 = .ok (.iload_n 3, 1) := by decide +kernel
theorem dL_law_518 : decode cL_law 518 = .ok (.iconst 1, 1) := by decide +kernel
theorem dL_law_519 : decode cL_law 519 = .ok (.iadd, 1) := by decide +kernel
theorem dL_law_520 : decode cL_law 520 = .ok (.iaload, 1) := by decide +kernel
theorem dL_law_521 : decode cL_law 521 = .ok (.invokevirtual 77, 3) := by decide +kernel
theorem dL_law_524 : decode cL_law 524 = .ok (.aload_n 2, 1) := by decide +kernel
theorem dL_law_525 : decode cL_law 525 = .ok (.aload_n 0, 1) := by decide +kernel
theorem dL_law_526 : decode cL_law 526 = .ok (.iload_n 3, 1) := by decide +kernel
theorem dL_law_527 : decode cL_law 527 = .ok (.iconst 1, 1) := by decide +kernel
theorem dL_law_528 : decode cL_law 528 = .ok (.iadd, 1) := by decide +kernel
theorem dL_law_529 : decode cL_law 529 = .ok (.iaload, 1) := by decide +kernel
theorem dL_law_530 : decode cL_law 530 = .ok (.invokevirtual 80, 3) := by decide +kernel
theorem dL_law_533 : decode cL_law 533 = .ok (.if_icmp .eq 172, 3) := by decide +kernel
theorem dL_law_536 : decode cL_law 536 = .ok (.iconst 0, 1) := by decide +kernel
theorem dL_law_537 : decode cL_law 537 = .ok (.ireturn, 1) := by decide +kernel
theorem dL_law_538 : decode cL_law 538 = .ok (.aload_n 1, 1) := by decide +kernel
theorem dL_law_539 : decode cL_law 539 = .ok (.invokevirtual 81, 3) := by decide +kernel
theorem dL_law_542 : decode cL_law 542 = .ok (.aload_n 2, 1) := by decide +kernel
theorem dL_law_543 : decode cL_law 543 = .ok (.invokevirtual 84, 3) := by decide +kernel
theorem dL_law_546 : decode cL_law 546 = .ok (.if_icmp .eq 159, 3) := by decide +kernel
theorem dL_law_549 : decode cL_law 549 = .ok (.iconst 0, 1) := by decide +kernel
theorem dL_law_550 : decode cL_law 550 = .ok (.ireturn, 1) := by decide +kernel
theorem dL_law_551 : decode cL_law 551 = .ok (.aload_n 1, 1) := by decide +kernel
theorem dL_law_552 : decode cL_law 552 = .ok (.invokevirtual 85, 3) := by decide +kernel
theorem dL_law_555 : decode cL_law 555 = .ok (.aload_n 2, 1) := by decide +kernel
theorem dL_law_556 : decode cL_law 556 = .ok (.invokevirtual 88, 3) := by decide +kernel
theorem dL_law_559 : decode cL_law 559 = .ok (.if_icmp .eq 146, 3) := by decide +kernel
theorem dL_law_562 : decode cL_law 562 = .ok (.iconst 0, 1) := by decide +kernel
theorem dL_law_563 : decode cL_law 563 = .ok (.ireturn, 1) := by decide +kernel
theorem dL_law_564 : decode cL_law 564 = .ok (.aload_n 1, 1) := by decide +kernel
theorem dL_law_565 : decode cL_law 565 = .ok (.invokevirtual 89, 3) := by decide +kernel
theorem dL_law_568 : decode cL_law 568 = .ok (.aload_n 2, 1) := by decide +kernel
theorem dL_law_569 : decode cL_law 569 = .ok (.invokevirtual 92, 3) := by decide +kernel
theorem dL_law_572 : decode cL_law 572 = .ok (.if_icmp .eq 133, 3) := by decide +kernel
theorem dL_law_575 : decode cL_law 575 = .ok (.iconst 0, 1) := by decide +kernel
theorem dL_law_576 : decode cL_law 576 = .ok (.ireturn, 1) := by decide +kernel
theorem dL_law_577 : decode cL_law 577 = .ok (.aload_n 1, 1) := by decide +kernel
theorem dL_law_578 : decode cL_law 578 = .ok (.invokevirtual 93, 3) := by decide +kernel
theorem dL_law_581 : decode cL_law 581 = .ok (.aload_n 2, 1) := by decide +kernel
theorem dL_law_582 : decode cL_law 582 = .ok (.invokevirtual 96, 3) := by decide +kernel
theorem dL_law_585 : decode cL_law 585 = .ok (.if_icmp .eq 120, 3) := by decide +kernel
theorem dL_law_588 : decode cL_law 588 = .ok (.iconst 0, 1) := by decide +kernel
theorem dL_law_589 : decode cL_law 589 = .ok (.ireturn, 1) := by decide +kernel
theorem dL_law_590 : decode cL_law 590 = .ok (.aload_n 1, 1) := by decide +kernel
theorem dL_law_591 : decode cL_law 591 = .ok (.aload_n 0, 1) := by decide +kernel
theorem dL_law_592 : decode cL_law 592 = .ok (.iload_n 3, 1) := by decide +kernel
theorem dL_law_593 : decode cL_law 593 = .ok (.iconst 1, 1) := by decide +kernel
theorem dL_law_594 : decode cL_law 594 = .ok (.iadd, 1) := by decide +kernel
theorem dL_law_595 : decode cL_law 595 = .ok (.iaload, 1) := by decide +kernel
theorem dL_law_596 : decode cL_law 596 = .ok (.invokevirtual 97, 3) := by decide +kernel
theorem dL_law_599 : decode cL_law 599 = .ok (.aload_n 2, 1) := by decide +kernel
theorem dL_law_600 : decode cL_law 600 = .ok (.aload_n 0, 1) := by decide +kernel
theorem dL_law_601 : decode cL_law 601 = .ok (.iload_n 3, 1) := by decide +kernel
theorem dL_law_602 : decode cL_law 602 = .ok (.iconst 1, 1) := by decide +kernel
theorem dL_law_603 : decode cL_law 603 = .ok (.iadd, 1) := by decide +kernel
theorem dL_law_604 : decode cL_law 604 = .ok (.iaload, 1) := by decide +kernel
theorem dL_law_605 : decode cL_law 605 = .ok (.invokevirtual 100, 3) := by decide +kernel
theorem dL_law_608 : decode cL_law 608 = .ok (.if_icmp .eq 97, 3) := by decide +kernel
theorem dL_law_611 : decode cL_law 611 = .ok (.iconst 0, 1) := by decide +kernel
theorem dL_law_612 : decode cL_law 612 = .ok (.ireturn, 1) := by decide +kernel
theorem dL_law_613 : decode cL_law 613 = .ok (.aload_n 1, 1) := by decide +kernel
theorem dL_law_614 : decode cL_law 614 = .ok (.aload_n 0, 1) := by decide +kernel
theorem dL_law_615 : decode cL_law 615 = .ok (.iload_n 3, 1) := by decide +kernel
theorem dL_law_616 : decode cL_law 616 = .ok (.iconst 1, 1) := by decide +kernel
theorem dL_law_617 : decode cL_law 617 = .ok (.iadd, 1) := by decide +kernel
theorem dL_law_618 : decode cL_law 618 = .ok (.iaload, 1) := by decide +kernel
theorem dL_law_619 : decode cL_law 619 = .ok (.invokevirtual 101, 3) := by decide +kernel
theorem dL_law_622 : decode cL_law 622 = .ok (.aload_n 2, 1) := by decide +kernel
theorem dL_law_623 : decode cL_law 623 = .ok (.aload_n 0, 1) := by decide +kernel
theorem dL_law_624 : decode cL_law 624 = .ok (.iload_n 3, 1) := by decide +kernel
theorem dL_law_625 : decode cL_law 625 = .ok (.iconst 1, 1) := by decide +kernel
theorem dL_law_626 : decode cL_law 626 = .ok (.iadd, 1) := by decide +kernel
theorem dL_law_627 : decode cL_law 627 = .ok (.iaload, 1) := by decide +kernel
theorem dL_law_628 : decode cL_law 628 = .ok (.invokevirtual 104, 3) := by decide +kernel
theorem dL_law_631 : decode cL_law 631 = .ok (.if_icmp .eq 74, 3) := by decide +kernel
theorem dL_law_634 : decode cL_law 634 = .ok (.iconst 0, 1) := by decide +kernel
theorem dL_law_635 : decode cL_law 635 = .ok (.ireturn, 1) := by decide +kernel
theorem dL_law_636 : decode cL_law 636 = .ok (.aload_n 1, 1) := by decide +kernel
theorem dL_law_637 : decode cL_law 637 = .ok (.invokevirtual 105, 3) := by decide +kernel
theorem dL_law_640 : decode cL_law 640 = .ok (.aload_n 2, 1) := by decide +kernel
theorem dL_law_641 : decode cL_law 641 = .ok (.invokevirtual 108, 3) := by decide +kernel
theorem dL_law_644 : decode cL_law 644 = .ok (.if_icmp .eq 61, 3) := by decide +kernel
theorem dL_law_647 : decode cL_law 647 = .ok (.iconst 0, 1) := by decide +kernel
theorem dL_law_648 : decode cL_law 648 = .ok (.ireturn, 1) := by decide +kernel
theorem dL_law_649 : decode cL_law 649 = .ok (.aload_n 1, 1) := by decide +kernel
theorem dL_law_650 : decode cL_law 650 = .ok (.aload_n 0, 1) := by decide +kernel
theorem dL_law_651 : decode cL_law 651 = .ok (.iload_n 3, 1) := by decide +kernel
theorem dL_law_652 : decode cL_law 652 = .ok (.iconst 1, 1) := by decide +kernel
theorem dL_law_653 : decode cL_law 653 = .ok (.iadd, 1) := by decide +kernel
theorem dL_law_654 : decode cL_law 654 = .ok (.iaload, 1) := by decide +kernel
theorem dL_law_655 : decode cL_law 655 = .ok (.aload_n 0, 1) := by decide +kernel
theorem dL_law_656 : decode cL_law 656 = .ok (.iload_n 3, 1) := by decide +kernel
theorem dL_law_657 : decode cL_law 657 = .ok (.iconst 2, 1) := by decide +kernel
theorem dL_law_658 : decode cL_law 658 = .ok (.iadd, 1) := by decide +kernel
theorem dL_law_659 : decode cL_law 659 = .ok (.iaload, 1) := by decide +kernel
theorem dL_law_660 : decode cL_law 660 = .ok (.invokevirtual 109, 3) := by decide +kernel
theorem dL_law_663 : decode cL_law 663 = .ok (.aload_n 2, 1) := by decide +kernel
theorem dL_law_664 : decode cL_law 664 = .ok (.aload_n 0, 1) := by decide +kernel
theorem dL_law_665 : decode cL_law 665 = .ok (.iload_n 3, 1) := by decide +kernel
theorem dL_law_666 : decode cL_law 666 = .ok (.iconst 1, 1) := by decide +kernel
theorem dL_law_667 : decode cL_law 667 = .ok (.iadd, 1) := by decide +kernel
theorem dL_law_668 : decode cL_law 668 = .ok (.iaload, 1) := by decide +kernel
theorem dL_law_669 : decode cL_law 669 = .ok (.aload_n 0, 1) := by decide +kernel
theorem dL_law_670 : decode cL_law 670 = .ok (.iload_n 3, 1) := by decide +kernel
theorem dL_law_671 : decode cL_law 671 = .ok (.iconst 2, 1) := by decide +kernel
theorem dL_law_672 : decode cL_law 672 = .ok (.iadd, 1) := by decide +kernel
theorem dL_law_673 : decode cL_law 673 = .ok (.iaload, 1) := by decide +kernel
theorem dL_law_674 : decode cL_law 674 = .ok (.invokevirtual 112, 3) := by decide +kernel
theorem dL_law_677 : decode cL_law 677 = .ok (.if_icmp .eq 28, 3) := by decide +kernel
theorem dL_law_680 : decode cL_law 680 = .ok (.iconst 0, 1) := by decide +kernel
theorem dL_law_681 : decode cL_law 681 = .ok (.ireturn, 1) := by decide +kernel
theorem dL_law_682 : decode cL_law 682 = .ok (.aload_n 1, 1) := by decide +kernel
theorem dL_law_683 : decode cL_law 683 = .ok (.aload_n 0, 1) := by decide +kernel
theorem dL_law_684 : decode cL_law 684 = .ok (.iload_n 3, 1) := by decide +kernel
theorem dL_law_685 : decode cL_law 685 = .ok (.iconst 1, 1) := by decide +kernel
theorem dL_law_686 : decode cL_law 686 = .ok (.iadd, 1) := by decide +kernel
theorem dL_law_687 : decode cL_law 687 = .ok (.iaload, 1) := by decide +kernel
theorem dL_law_688 : decode cL_law 688 = .ok (.invokevirtual 113, 3) := by decide +kernel
theorem dL_law_691 : decode cL_law 691 = .ok (.aload_n 2, 1) := by decide +kernel
theorem dL_law_692 : decode cL_law 692 = .ok (.aload_n 0, 1) := by decide +kernel
theorem dL_law_693 : decode cL_law 693 = .ok (.iload_n 3, 1) := by decide +kernel
theorem dL_law_694 : decode cL_law 694 = .ok (.iconst 1, 1) := by decide +kernel
theorem dL_law_695 : decode cL_law 695 = .ok (.iadd, 1) := by decide +kernel
theorem dL_law_696 : decode cL_law 696 = .ok (.iaload, 1) := by decide +kernel
theorem dL_law_697 : decode cL_law 697 = .ok (.invokevirtual 116, 3) := by decide +kernel
theorem dL_law_700 : decode cL_law 700 = .ok (.if_icmp .eq 5, 3) := by decide +kernel
theorem dL_law_703 : decode cL_law 703 = .ok (.iconst 0, 1) := by decide +kernel
theorem dL_law_704 : decode cL_law 704 = .ok (.ireturn, 1) := by decide +kernel
theorem dL_law_705 : decode cL_law 705 = .ok (.iinc 3 3, 3) := by decide +kernel
theorem dL_law_708 : decode cL_law 708 = .ok (.goto (-690), 3) := by decide +kernel
theorem dL_law_711 : decode cL_law 711 = .ok (.iconst 1, 1) := by decide +kernel
theorem dL_law_712 : decode cL_law 712 = .ok (.ireturn, 1) := by decide +kernel
abbrev vwCl : List vw_C := [(RX0, TX0, 6), (RX1, TX1, 4), (RX2, TX2, 4), (RX3, TX3, 3), (RX4, TX4, 6), (RX5, TX5, 19)]
end
section
/-! numbers: every int of the machine is iI of an Int; a truth is iI of bZ -/
def iI (z : Int) : Int32 := Int32.ofInt z
def bZ (b : Bool) : Int := match b with
  | true => 1
  | false => 0
def R32 (z : Int) : Prop := -2147483648 ≤ z ∧ z < 2147483648
def aI (f : Nat → Int) : Nat → Int32 := fun j => iI (f j)
def aN (f : Nat → Nat) : Nat → Int32 := fun j => iI ((f j : Nat) : Int)
def aB (f : Nat → Bool) : Nat → Int32 := fun j => iI (bZ (f j))
theorem iI_toInt {z : Int} (h : R32 z) : (iI z).toInt = z := Int32.toInt_ofInt_of_le h.1 h.2
theorem iI_of (x : Int32) : iI x.toInt = x := Int32.ofInt_toInt x
theorem R32_of (x : Int32) : R32 x.toInt := ⟨Int32.le_toInt x, Int32.toInt_lt x⟩
theorem iI_add (a b : Int) : iI a + iI b = iI (a + b) := (Int32.ofInt_add a b).symm
theorem iI_sub (a b : Int) : iI a - iI b = iI (a - b) := (Int32.ofInt_sub a b).symm
theorem iI_mul (a b : Int) : iI a * iI b = iI (a * b) := (Int32.ofInt_mul a b).symm
theorem iI_lt {a b : Int} (ha : R32 a) (hb : R32 b) : iI a < iI b ↔ a < b := by rw [Int32.lt_iff_toInt_lt, iI_toInt ha, iI_toInt hb]
theorem iI_le {a b : Int} (ha : R32 a) (hb : R32 b) : iI a ≤ iI b ↔ a ≤ b := by rw [Int32.le_iff_toInt_le, iI_toInt ha, iI_toInt hb]
theorem iI_inj {a b : Int} (ha : R32 a) (hb : R32 b) : iI a = iI b ↔ a = b := ⟨fun h => by rw [← iI_toInt ha, ← iI_toInt hb, h], fun h => by rw [h]⟩
theorem iI_0 : iI 0 = 0 := rfl
theorem R32_0 : R32 0 := ⟨by decide, by decide⟩
theorem R32_n {n : Nat} (h : n < 2147483648) : R32 (n : Int) := ⟨by omega, by omega⟩
theorem iI_nI (n : Nat) : iI (n : Int) = nI n := rfl
theorem iI_in {k n : Nat} (h : k < n) (hn : n < 2 ^ 31) : vp_in (iI (k : Int)) n := by rw [iI_nI]; exact vp_in_nI h hn
theorem iI_cl {k n : Nat} (h : k < n) (hn : n < 2 ^ 31) : (iI (k : Int)).toNatClampNeg = k := by rw [iI_nI]; exact nI_clamp (by omega)
theorem iI_div {a : Nat} (ha : a < 2147483648) : iI (a : Int) / iI 49 = iI ((a / 49 : Nat) : Int) := by
  rw [iI_nI, iI_nI]; exact pk_div (d := 49) ha (by decide) (by decide)
theorem iI_rem {a : Nat} (ha : a < 2147483648) : iI (a : Int) - iI (a : Int) / iI 49 * iI 49 = iI ((a % 49 : Nat) : Int) := by
  rw [iI_nI, iI_nI]; exact pk_rem (d := 49) ha (by decide) (by decide)
theorem nar_bZ (b : Bool) : narrow .boolean (.int (iI (bZ b))) = .int (iI (bZ b)) := by cases b <;> decide
theorem fit_bZ (b : Bool) : fits .boolean (.int (iI (bZ b))) = true := by cases b <;> decide
theorem vnar_bZ (b : Bool) : vp_nar .boolean (iI (bZ b)) = iI (bZ b) := by cases b <;> decide
theorem upd_aI (f : Nat → Int) (k : Nat) (z : Int) : upd (aI f) k (iI z) = aI (va_up f k z) := by
  funext j; simp only [upd, aI, va_up]; split <;> rfl
theorem upd_aN (f : Nat → Nat) (k z : Nat) : upd (aN f) k (iI (z : Int)) = aN (va_up f k z) := by
  funext j; simp only [upd, aN, va_up]; split <;> rfl
theorem upd_aB (f : Nat → Bool) (k : Nat) (z : Bool) : upd (aB f) k (iI (bZ z)) = aB (va_up f k z) := by
  funext j; simp only [upd, aB, va_up]; split <;> rfl
/-- the two array classes -/
abbrev tY (cI cZ : ClassId) : List (ClassId × FieldType) := [(cI, .int), (cZ, .boolean)]
section QR
variable {p : Program} {l : Launch} {e : Env} {R : Room} {s : State} {m : MethodId} {args : Array Value} {below : List Frame} {meth : Method} {c : Code} {H : Heap} {locs : List Loc} {cells slots : Nat} {Q : State → Prop} {cc : ByteArray} {pc : Nat} {ls : Array Slot} {rest : List Value}
theorem q_cast {a b : Int} (h : a = b) (k : W p l e R s m args below meth c H locs cells slots Q (F0 m pc ls (.int (iI b) :: rest))) : W p l e R s m args below meth c H locs cells slots Q (F0 m pc ls (.int (iI a) :: rest)) := by rw [h]; exact k
theorem q_cast2 {x : Value} {a b : Int} (h : a = b) (k : W p l e R s m args below meth c H locs cells slots Q (F0 m pc ls (x :: .int (iI b) :: rest))) : W p l e R s m args below meth c H locs cells slots Q (F0 m pc ls (x :: .int (iI a) :: rest)) := by rw [h]; exact k
theorem q_iadd {a b : Int} (hexec : p.tables.exec = Jvm.exec) (hb : c.code = cc) (hdg : decode cc pc = .ok (.iadd, 1)) (k : W p l e R s m args below meth c H locs cells slots Q (F0 m (pc + 1) ls (.int (iI (a + b)) :: rest))) : W p l e R s m args below meth c H locs cells slots Q (F0 m pc ls (.int (iI b) :: .int (iI a) :: rest)) :=
  lv_iadd hexec hb hdg (by rw [iI_add]; exact k)
theorem q_iaddN {a b : Nat} (hexec : p.tables.exec = Jvm.exec) (hb : c.code = cc) (hdg : decode cc pc = .ok (.iadd, 1)) (k : W p l e R s m args below meth c H locs cells slots Q (F0 m (pc + 1) ls (.int (iI ((a + b : Nat) : Int)) :: rest))) : W p l e R s m args below meth c H locs cells slots Q (F0 m pc ls (.int (iI (b : Int)) :: .int (iI (a : Int)) :: rest)) :=
  q_iadd hexec hb hdg (by rw [← Int.natCast_add]; exact k)
theorem q_isub {a b : Int} (hexec : p.tables.exec = Jvm.exec) (hb : c.code = cc) (hdg : decode cc pc = .ok (.isub, 1)) (k : W p l e R s m args below meth c H locs cells slots Q (F0 m (pc + 1) ls (.int (iI (a - b)) :: rest))) : W p l e R s m args below meth c H locs cells slots Q (F0 m pc ls (.int (iI b) :: .int (iI a) :: rest)) :=
  lv_isub hexec hb hdg (by rw [iI_sub]; exact k)
theorem q_imul {a b : Int} (hexec : p.tables.exec = Jvm.exec) (hb : c.code = cc) (hdg : decode cc pc = .ok (.imul, 1)) (k : W p l e R s m args below meth c H locs cells slots Q (F0 m (pc + 1) ls (.int (iI (a * b)) :: rest))) : W p l e R s m args below meth c H locs cells slots Q (F0 m pc ls (.int (iI b) :: .int (iI a) :: rest)) :=
  lv_imul hexec hb hdg (by rw [iI_mul]; exact k)
theorem q_imulN {a b : Nat} (hexec : p.tables.exec = Jvm.exec) (hb : c.code = cc) (hdg : decode cc pc = .ok (.imul, 1)) (k : W p l e R s m args below meth c H locs cells slots Q (F0 m (pc + 1) ls (.int (iI ((a * b : Nat) : Int)) :: rest))) : W p l e R s m args below meth c H locs cells slots Q (F0 m pc ls (.int (iI (b : Int)) :: .int (iI (a : Int)) :: rest)) :=
  q_imul hexec hb hdg (by rw [← Int.natCast_mul]; exact k)
theorem q_idiv {a : Nat} (hexec : p.tables.exec = Jvm.exec) (hb : c.code = cc) (ha : a < 2147483648) (hdg : decode cc pc = .ok (.idiv, 1)) (k : W p l e R s m args below meth c H locs cells slots Q (F0 m (pc + 1) ls (.int (iI ((a / 49 : Nat) : Int)) :: rest))) : W p l e R s m args below meth c H locs cells slots Q (F0 m pc ls (.int (iI ((49 : Nat) : Int)) :: .int (iI (a : Int)) :: rest)) :=
  lv_idiv hexec hb hdg (by decide) (by show W p l e R s m args below meth c H locs cells slots Q (F0 m (pc + 1) ls (.int (iI (a : Int) / iI 49) :: rest)); rw [iI_div ha]; exact k)
theorem q_irem {a : Nat} (hexec : p.tables.exec = Jvm.exec) (hb : c.code = cc) (ha : a < 2147483648) (hdg : decode cc pc = .ok (.irem, 1)) (k : W p l e R s m args below meth c H locs cells slots Q (F0 m (pc + 1) ls (.int (iI ((a % 49 : Nat) : Int)) :: rest))) : W p l e R s m args below meth c H locs cells slots Q (F0 m pc ls (.int (iI ((49 : Nat) : Int)) :: .int (iI (a : Int)) :: rest)) :=
  lv_irem hexec hb hdg (by decide) (by show W p l e R s m args below meth c H locs cells slots Q (F0 m (pc + 1) ls (.int (iI (a : Int) - iI (a : Int) / iI 49 * iI 49) :: rest)); rw [iI_rem ha]; exact k)
theorem q_icmp_eq {a b : Int} (hexec : p.tables.exec = Jvm.exec) (hb : c.code = cc) {off : Int} {tgt : Nat} (hdg : decode cc pc = .ok (.if_icmp .eq off, 3)) (ht : (pc : Int) + off = (tgt : Int)) (ha : R32 a) (hb2 : R32 b) (kt : a = b → W p l e R s m args below meth c H locs cells slots Q (F0 m tgt ls rest)) (kf : ¬ a = b → W p l e R s m args below meth c H locs cells slots Q (F0 m (pc + 3) ls rest)) : W p l e R s m args below meth c H locs cells slots Q (F0 m pc ls (.int (iI b) :: .int (iI a) :: rest)) :=
  lv_icmp_eq hexec hb hdg ht (fun h => kt ((iI_inj ha hb2).mp h)) (fun h => kf (fun h2 => h ((iI_inj ha hb2).mpr h2)))
theorem q_if_eq {a : Int} (hexec : p.tables.exec = Jvm.exec) (hb : c.code = cc) {off : Int} {tgt : Nat} (hdg : decode cc pc = .ok (.ifCond .eq off, 3)) (ht : (pc : Int) + off = (tgt : Int)) (ha : R32 a) (kt : a = 0 → W p l e R s m args below meth c H locs cells slots Q (F0 m tgt ls rest)) (kf : ¬ a = 0 → W p l e R s m args below meth c H locs cells slots Q (F0 m (pc + 3) ls rest)) : W p l e R s m args below meth c H locs cells slots Q (F0 m pc ls (.int (iI a) :: rest)) :=
  lv_if_eq hexec hb hdg ht (fun h => kt ((iI_inj ha R32_0).mp h)) (fun h => kf (fun h2 => h ((iI_inj ha R32_0).mpr h2)))
theorem q_icmp_ne {a b : Int} (hexec : p.tables.exec = Jvm.exec) (hb : c.code = cc) {off : Int} {tgt : Nat} (hdg : decode cc pc = .ok (.if_icmp .ne off, 3)) (ht : (pc : Int) + off = (tgt : Int)) (ha : R32 a) (hb2 : R32 b) (kt : ¬ a = b → W p l e R s m args below meth c H locs cells slots Q (F0 m tgt ls rest)) (kf : a = b → W p l e R s m args below meth c H locs cells slots Q (F0 m (pc + 3) ls rest)) : W p l e R s m args below meth c H locs cells slots Q (F0 m pc ls (.int (iI b) :: .int (iI a) :: rest)) :=
  lv_icmp_ne hexec hb hdg ht (fun h => kt (fun h2 => h ((iI_inj ha hb2).mpr h2))) (fun h => kf ((iI_inj ha hb2).mp h))
theorem q_if_ne {a : Int} (hexec : p.tables.exec = Jvm.exec) (hb : c.code = cc) {off : Int} {tgt : Nat} (hdg : decode cc pc = .ok (.ifCond .ne off, 3)) (ht : (pc : Int) + off = (tgt : Int)) (ha : R32 a) (kt : ¬ a = 0 → W p l e R s m args below meth c H locs cells slots Q (F0 m tgt ls rest)) (kf : a = 0 → W p l e R s m args below meth c H locs cells slots Q (F0 m (pc + 3) ls rest)) : W p l e R s m args below meth c H locs cells slots Q (F0 m pc ls (.int (iI a) :: rest)) :=
  lv_if_ne hexec hb hdg ht (fun h => kt (fun h2 => h ((iI_inj ha R32_0).mpr h2))) (fun h => kf ((iI_inj ha R32_0).mp h))
theorem q_icmp_lt {a b : Int} (hexec : p.tables.exec = Jvm.exec) (hb : c.code = cc) {off : Int} {tgt : Nat} (hdg : decode cc pc = .ok (.if_icmp .lt off, 3)) (ht : (pc : Int) + off = (tgt : Int)) (ha : R32 a) (hb2 : R32 b) (kt : a < b → W p l e R s m args below meth c H locs cells slots Q (F0 m tgt ls rest)) (kf : b ≤ a → W p l e R s m args below meth c H locs cells slots Q (F0 m (pc + 3) ls rest)) : W p l e R s m args below meth c H locs cells slots Q (F0 m pc ls (.int (iI b) :: .int (iI a) :: rest)) :=
  lv_icmp_lt hexec hb hdg ht (fun h => kt ((iI_lt ha hb2).mp h)) (fun h => kf (Int.not_lt.mp (fun h2 => h ((iI_lt ha hb2).mpr h2))))
theorem q_if_lt {a : Int} (hexec : p.tables.exec = Jvm.exec) (hb : c.code = cc) {off : Int} {tgt : Nat} (hdg : decode cc pc = .ok (.ifCond .lt off, 3)) (ht : (pc : Int) + off = (tgt : Int)) (ha : R32 a) (kt : a < 0 → W p l e R s m args below meth c H locs cells slots Q (F0 m tgt ls rest)) (kf : 0 ≤ a → W p l e R s m args below meth c H locs cells slots Q (F0 m (pc + 3) ls rest)) : W p l e R s m args below meth c H locs cells slots Q (F0 m pc ls (.int (iI a) :: rest)) :=
  lv_if_lt hexec hb hdg ht (fun h => kt ((iI_lt ha R32_0).mp h)) (fun h => kf (Int.not_lt.mp (fun h2 => h ((iI_lt ha R32_0).mpr h2))))
theorem q_icmp_ge {a b : Int} (hexec : p.tables.exec = Jvm.exec) (hb : c.code = cc) {off : Int} {tgt : Nat} (hdg : decode cc pc = .ok (.if_icmp .ge off, 3)) (ht : (pc : Int) + off = (tgt : Int)) (ha : R32 a) (hb2 : R32 b) (kt : b ≤ a → W p l e R s m args below meth c H locs cells slots Q (F0 m tgt ls rest)) (kf : a < b → W p l e R s m args below meth c H locs cells slots Q (F0 m (pc + 3) ls rest)) : W p l e R s m args below meth c H locs cells slots Q (F0 m pc ls (.int (iI b) :: .int (iI a) :: rest)) :=
  lv_icmp_ge hexec hb hdg ht (fun h => kt ((iI_le hb2 ha).mp h)) (fun h => kf (Int.not_le.mp (fun h2 => h ((iI_le hb2 ha).mpr h2))))
theorem q_if_ge {a : Int} (hexec : p.tables.exec = Jvm.exec) (hb : c.code = cc) {off : Int} {tgt : Nat} (hdg : decode cc pc = .ok (.ifCond .ge off, 3)) (ht : (pc : Int) + off = (tgt : Int)) (ha : R32 a) (kt : 0 ≤ a → W p l e R s m args below meth c H locs cells slots Q (F0 m tgt ls rest)) (kf : a < 0 → W p l e R s m args below meth c H locs cells slots Q (F0 m (pc + 3) ls rest)) : W p l e R s m args below meth c H locs cells slots Q (F0 m pc ls (.int (iI a) :: rest)) :=
  lv_if_ge hexec hb hdg ht (fun h => kt ((iI_le R32_0 ha).mp h)) (fun h => kf (Int.not_le.mp (fun h2 => h ((iI_le R32_0 ha).mpr h2))))
theorem q_icmp_gt {a b : Int} (hexec : p.tables.exec = Jvm.exec) (hb : c.code = cc) {off : Int} {tgt : Nat} (hdg : decode cc pc = .ok (.if_icmp .gt off, 3)) (ht : (pc : Int) + off = (tgt : Int)) (ha : R32 a) (hb2 : R32 b) (kt : b < a → W p l e R s m args below meth c H locs cells slots Q (F0 m tgt ls rest)) (kf : a ≤ b → W p l e R s m args below meth c H locs cells slots Q (F0 m (pc + 3) ls rest)) : W p l e R s m args below meth c H locs cells slots Q (F0 m pc ls (.int (iI b) :: .int (iI a) :: rest)) :=
  lv_icmp_gt hexec hb hdg ht (fun h => kt ((iI_lt hb2 ha).mp h)) (fun h => kf (Int.not_lt.mp (fun h2 => h ((iI_lt hb2 ha).mpr h2))))
theorem q_if_gt {a : Int} (hexec : p.tables.exec = Jvm.exec) (hb : c.code = cc) {off : Int} {tgt : Nat} (hdg : decode cc pc = .ok (.ifCond .gt off, 3)) (ht : (pc : Int) + off = (tgt : Int)) (ha : R32 a) (kt : 0 < a → W p l e R s m args below meth c H locs cells slots Q (F0 m tgt ls rest)) (kf : a ≤ 0 → W p l e R s m args below meth c H locs cells slots Q (F0 m (pc + 3) ls rest)) : W p l e R s m args below meth c H locs cells slots Q (F0 m pc ls (.int (iI a) :: rest)) :=
  lv_if_gt hexec hb hdg ht (fun h => kt ((iI_lt R32_0 ha).mp h)) (fun h => kf (Int.not_lt.mp (fun h2 => h ((iI_lt R32_0 ha).mpr h2))))
theorem q_icmp_le {a b : Int} (hexec : p.tables.exec = Jvm.exec) (hb : c.code = cc) {off : Int} {tgt : Nat} (hdg : decode cc pc = .ok (.if_icmp .le off, 3)) (ht : (pc : Int) + off = (tgt : Int)) (ha : R32 a) (hb2 : R32 b) (kt : a ≤ b → W p l e R s m args below meth c H locs cells slots Q (F0 m tgt ls rest)) (kf : b < a → W p l e R s m args below meth c H locs cells slots Q (F0 m (pc + 3) ls rest)) : W p l e R s m args below meth c H locs cells slots Q (F0 m pc ls (.int (iI b) :: .int (iI a) :: rest)) :=
  lv_icmp_le hexec hb hdg ht (fun h => kt ((iI_le ha hb2).mp h)) (fun h => kf (Int.not_le.mp (fun h2 => h ((iI_le ha hb2).mpr h2))))
theorem q_if_le {a : Int} (hexec : p.tables.exec = Jvm.exec) (hb : c.code = cc) {off : Int} {tgt : Nat} (hdg : decode cc pc = .ok (.ifCond .le off, 3)) (ht : (pc : Int) + off = (tgt : Int)) (ha : R32 a) (kt : a ≤ 0 → W p l e R s m args below meth c H locs cells slots Q (F0 m tgt ls rest)) (kf : 0 < a → W p l e R s m args below meth c H locs cells slots Q (F0 m (pc + 3) ls rest)) : W p l e R s m args below meth c H locs cells slots Q (F0 m pc ls (.int (iI a) :: rest)) :=
  lv_if_le hexec hb hdg ht (fun h => kt ((iI_le ha R32_0).mp h)) (fun h => kf (Int.not_le.mp (fun h2 => h ((iI_le ha R32_0).mpr h2))))
theorem bZ_R (b : Bool) : R32 (bZ b) := by cases b <;> exact ⟨by decide, by decide⟩
theorem bZ_0 {b : Bool} (h : bZ b = 0) : b = false := by cases b with
  | true => exact absurd h (by decide)
  | false => rfl
theorem bZ_1 {b : Bool} (h : ¬ bZ b = 0) : b = true := by cases b with
  | true => rfl
  | false => exact absurd rfl h
theorem q_bf {b : Bool} (hexec : p.tables.exec = Jvm.exec) (hb : c.code = cc) {off : Int} {tgt : Nat} (hdg : decode cc pc = .ok (.ifCond .eq off, 3)) (ht : (pc : Int) + off = (tgt : Int)) (kt : b = false → W p l e R s m args below meth c H locs cells slots Q (F0 m tgt ls rest)) (kf : b = true → W p l e R s m args below meth c H locs cells slots Q (F0 m (pc + 3) ls rest)) : W p l e R s m args below meth c H locs cells slots Q (F0 m pc ls (.int (iI (bZ b)) :: rest)) :=
  q_if_eq hexec hb hdg ht (bZ_R b) (fun h => kt (bZ_0 h)) (fun h => kf (bZ_1 h))
theorem q_bt {b : Bool} (hexec : p.tables.exec = Jvm.exec) (hb : c.code = cc) {off : Int} {tgt : Nat} (hdg : decode cc pc = .ok (.ifCond .ne off, 3)) (ht : (pc : Int) + off = (tgt : Int)) (kt : b = true → W p l e R s m args below meth c H locs cells slots Q (F0 m tgt ls rest)) (kf : b = false → W p l e R s m args below meth c H locs cells slots Q (F0 m (pc + 3) ls rest)) : W p l e R s m args below meth c H locs cells slots Q (F0 m pc ls (.int (iI (bZ b)) :: rest)) :=
  q_if_ne hexec hb hdg ht (bZ_R b) (fun h => kt (bZ_1 h)) (fun h => kf (bZ_0 h))
theorem q_df {b : Prop} {ib : Decidable b} (hexec : p.tables.exec = Jvm.exec) (hb : c.code = cc) {off : Int} {tgt : Nat} (hdg : decode cc pc = .ok (.ifCond .eq off, 3)) (ht : (pc : Int) + off = (tgt : Int)) (kt : ¬ b → W p l e R s m args below meth c H locs cells slots Q (F0 m tgt ls rest)) (kf : b → W p l e R s m args below meth c H locs cells slots Q (F0 m (pc + 3) ls rest)) : W p l e R s m args below meth c H locs cells slots Q (F0 m pc ls (.int (iI (bZ (decide b))) :: rest)) :=
  q_bf hexec hb hdg ht (fun h => kt (of_decide_eq_false h)) (fun h => kf (of_decide_eq_true h))
theorem q_dt {b : Prop} {ib : Decidable b} (hexec : p.tables.exec = Jvm.exec) (hb : c.code = cc) {off : Int} {tgt : Nat} (hdg : decode cc pc = .ok (.ifCond .ne off, 3)) (ht : (pc : Int) + off = (tgt : Int)) (kt : b → W p l e R s m args below meth c H locs cells slots Q (F0 m tgt ls rest)) (kf : ¬ b → W p l e R s m args below meth c H locs cells slots Q (F0 m (pc + 3) ls rest)) : W p l e R s m args below meth c H locs cells slots Q (F0 m pc ls (.int (iI (bZ (decide b))) :: rest)) :=
  q_bt hexec hb hdg ht (fun h => kt (of_decide_eq_true h)) (fun h => kf (of_decide_eq_false h))
theorem q_iinc {i nL k : Nat} {n : Int} {a : Int} {lv lv' : List (Nat × Value)} (z : Int) (hexec : p.tables.exec = Jvm.exec) (hb : c.code = cc) (hdg : decode cc pc = .ok (.iinc i n, 3)) (h : lv_has ls nL lv) (hk : lv[k]? = some (i, .int (iI a))) (hz : a + n = z) (hn : i < nL) (hl : (i, Value.int (iI z)) :: lv.filter (fun q => !(q.1 == i) && !(q.1 + 1 == i && q.2.category == 2)) = lv') (kk : ∀ ls' : Array Slot, lv_has ls' nL lv' → W p l e R s m args below meth c H locs cells slots Q (F0 m (pc + 3) ls' rest)) : W p l e R s m args below meth c H locs cells slots Q (F0 m pc ls rest) :=
  lv_iinc (v := iI z) hexec hb hdg h hk (by show iI a + iI n = iI z; rw [iI_add, hz]) hn hl kk
end QR
section QA
variable {p : Program} {l : Launch} {e : Env} {R : Room} {s : State} {m : MethodId} {args : Array Value} {below : List Frame} {meth : Method} {c : Code} {H : Heap} {locs : List Loc} {cells slots : Nat} {Q : State → Prop}
variable {cc : ByteArray} {pc : Nat} {ls : Array Slot} {rest : List Value} {D : va_G} {cl : List vw_C} {A : Nat → Prop} {a : Nat} {ws : va_W} {H0 : Heap} {cI cZ : ClassId} {n : Nat}
theorem q_ildI (hexec : p.tables.exec = Jvm.exec) (hb : c.code = cc) (hK : va_K D cl (tY cI cZ) s) (hP : va_P D cl ws H) (q0 : Nat) {f : Nat → Int} (ha : ws[q0]? = some (a, .inl (cI, n, .inl (aI f)))) (hn : n < 2 ^ 31) (k : Nat) (hk : k < n) (z : Int) (hz : f k = z) (hdg : decode cc pc = .ok (.iaload, 1)) (kk : W p l e R s m args below meth c H locs cells slots Q (F0 m (pc + 1) ls (.int (iI z) :: rest))) : W p l e R s m args below meth c H locs cells slots Q (F0 m pc ls (.int (iI (k : Int)) :: .ref a :: rest)) :=
  va_iald hexec hb hK hP q0 0 ha rfl (iI_in hk hn) hdg (by rw [iI_cl hk hn]; show W p l e R s m args below meth c H locs cells slots Q (F0 m (pc + 1) ls (.int (iI (f k)) :: rest)); rw [hz]; exact kk)
theorem q_ildN (hexec : p.tables.exec = Jvm.exec) (hb : c.code = cc) (hK : va_K D cl (tY cI cZ) s) (hP : va_P D cl ws H) (q0 : Nat) {f : Nat → Nat} (ha : ws[q0]? = some (a, .inl (cI, n, .inl (aN f)))) (hn : n < 2 ^ 31) (k : Nat) (hk : k < n) (z : Nat) (hz : f k = z) (hdg : decode cc pc = .ok (.iaload, 1)) (kk : W p l e R s m args below meth c H locs cells slots Q (F0 m (pc + 1) ls (.int (iI (z : Int)) :: rest))) : W p l e R s m args below meth c H locs cells slots Q (F0 m pc ls (.int (iI (k : Int)) :: .ref a :: rest)) :=
  va_iald hexec hb hK hP q0 0 ha rfl (iI_in hk hn) hdg (by rw [iI_cl hk hn]; show W p l e R s m args below meth c H locs cells slots Q (F0 m (pc + 1) ls (.int (iI ((f k : Nat) : Int)) :: rest)); rw [hz]; exact kk)
theorem q_zld (hexec : p.tables.exec = Jvm.exec) (hb : c.code = cc) (hK : va_K D cl (tY cI cZ) s) (hP : va_P D cl ws H) (q0 : Nat) {f : Nat → Bool} (ha : ws[q0]? = some (a, .inl (cZ, n, .inl (aB f)))) (hn : n < 2 ^ 31) (k : Nat) (hk : k < n) (z : Bool) (hz : f k = z) (hdg : decode cc pc = .ok (.baload, 1)) (kk : W p l e R s m args below meth c H locs cells slots Q (F0 m (pc + 1) ls (.int (iI (bZ z)) :: rest))) : W p l e R s m args below meth c H locs cells slots Q (F0 m pc ls (.int (iI (k : Int)) :: .ref a :: rest)) :=
  va_zald hexec hb hK hP q0 1 ha rfl (iI_in hk hn) hdg (by rw [iI_cl hk hn]; show W p l e R s m args below meth c H locs cells slots Q (F0 m (pc + 1) ls (.int (iI (bZ (f k))) :: rest)); rw [hz]; exact kk)
theorem q_istI (hexec : p.tables.exec = Jvm.exec) (hb : c.code = cc) (hK : va_K D cl (tY cI cZ) s) (hP : va_P D cl ws H) (hD : va_D A ws) (hS : va_S A H0 H locs) (q0 : Nat) {f : Nat → Int} (ha : ws[q0]? = some (a, .inl (cI, n, .inl (aI f)))) (hn : n < 2 ^ 31) (k : Nat) (hk : k < n) (z : Int) (hdg : decode cc pc = .ok (.iastore, 1)) {ws' : va_W} (hw : ws.set q0 (a, .inl (cI, n, .inl (aI (va_up f k z)))) = ws') (kk : ∀ (H1 : Heap) (locs1 : List Loc), va_P D cl ws' H1 → va_D A ws' → va_S A H0 H1 locs1 → W p l e R s m args below meth c H1 locs1 cells slots Q (F0 m (pc + 1) ls rest)) : W p l e R s m args below meth c H locs cells slots Q (F0 m pc ls (.int (iI z) :: .int (iI (k : Int)) :: .ref a :: rest)) :=
  va_iast hexec hb hK hP hD hS q0 0 ha rfl (iI_in hk hn) hdg (fun H1 locs1 h1 h2 h3 => by rw [iI_cl hk hn, upd_aI, hw] at h1 h2; exact kk H1 locs1 h1 h2 h3)
theorem q_istN (hexec : p.tables.exec = Jvm.exec) (hb : c.code = cc) (hK : va_K D cl (tY cI cZ) s) (hP : va_P D cl ws H) (hD : va_D A ws) (hS : va_S A H0 H locs) (q0 : Nat) {f : Nat → Nat} (ha : ws[q0]? = some (a, .inl (cI, n, .inl (aN f)))) (hn : n < 2 ^ 31) (k : Nat) (hk : k < n) (z : Nat) (hdg : decode cc pc = .ok (.iastore, 1)) {ws' : va_W} (hw : ws.set q0 (a, .inl (cI, n, .inl (aN (va_up f k z)))) = ws') (kk : ∀ (H1 : Heap) (locs1 : List Loc), va_P D cl ws' H1 → va_D A ws' → va_S A H0 H1 locs1 → W p l e R s m args below meth c H1 locs1 cells slots Q (F0 m (pc + 1) ls rest)) : W p l e R s m args below meth c H locs cells slots Q (F0 m pc ls (.int (iI (z : Int)) :: .int (iI (k : Int)) :: .ref a :: rest)) :=
  va_iast hexec hb hK hP hD hS q0 0 ha rfl (iI_in hk hn) hdg (fun H1 locs1 h1 h2 h3 => by rw [iI_cl hk hn, upd_aN, hw] at h1 h2; exact kk H1 locs1 h1 h2 h3)
theorem q_zst (hexec : p.tables.exec = Jvm.exec) (hb : c.code = cc) (hK : va_K D cl (tY cI cZ) s) (hP : va_P D cl ws H) (hD : va_D A ws) (hS : va_S A H0 H locs) (q0 : Nat) {f : Nat → Bool} (ha : ws[q0]? = some (a, .inl (cZ, n, .inl (aB f)))) (hn : n < 2 ^ 31) (k : Nat) (hk : k < n) (z : Bool) (hdg : decode cc pc = .ok (.bastore, 1)) {ws' : va_W} (hw : ws.set q0 (a, .inl (cZ, n, .inl (aB (va_up f k z)))) = ws') (kk : ∀ (H1 : Heap) (locs1 : List Loc), va_P D cl ws' H1 → va_D A ws' → va_S A H0 H1 locs1 → W p l e R s m args below meth c H1 locs1 cells slots Q (F0 m (pc + 1) ls rest)) : W p l e R s m args below meth c H locs cells slots Q (F0 m pc ls (.int (iI (bZ z)) :: .int (iI (k : Int)) :: .ref a :: rest)) :=
  va_zast hexec hb hK hP hD hS q0 1 ha rfl (iI_in hk hn) hdg (fun H1 locs1 h1 h2 h3 => by rw [iI_cl hk hn, vnar_bZ, upd_aB, hw] at h1 h2; exact kk H1 locs1 h1 h2 h3)
end QA
end
section
/-- a method that reads: from any heap that holds the world w it answers z, and the heap stays -/
def Ro (l : Launch) (y : MethodName) (ws : List Cond) (rm : Room) (G : va_G) (cI cZ : ClassId) (av : List Value) (w : va_W) (z : Int) : Prop :=
  Met l y ws rm (va_Pc av (fun U => va_P G vwCl w U.heap ∧ va_K G vwCl (tY cI cZ) U)) (vp_Si (fun r => r = iI z)) 0 0 (fun _ => False)
/-- a method that writes: from a heap that holds w it comes to one that holds wd u, for some u with post -/
def Wr {S : Type} (l : Launch) (y : MethodName) (ws : List Cond) (rm : Room) (G : va_G) (cI cZ : ClassId) (av : List Value) (w : va_W) (sz : Nat) (post : S → Prop) (wd : S → va_W) : Prop :=
  Met l y ws rm (va_Pc av (fun U => U.heap.size = sz ∧ va_P G vwCl w U.heap ∧ va_K G vwCl (tY cI cZ) U ∧ va_D (fun _ => True) w)) (va_Qv post (fun u t => va_P G vwCl (wd u) t.heap) (va_A w sz)) 0 0 (va_A w sz)
def WrI {S : Type} (l : Launch) (y : MethodName) (ws : List Cond) (rm : Room) (G : va_G) (cI cZ : ClassId) (av : List Value) (w : va_W) (sz : Nat) (z : S → Int) (post : S → Prop) (wd : S → va_W) : Prop :=
  Met l y ws rm (va_Pc av (fun U => U.heap.size = sz ∧ va_P G vwCl w U.heap ∧ va_K G vwCl (tY cI cZ) U ∧ va_D (fun _ => True) w)) (va_Qi (fun r u => r = iI (z u) ∧ post u) (fun u t => va_P G vwCl (wd u) t.heap) (va_A w sz)) 0 0 (va_A w sz)
theorem ro_blind {G : va_G} {tys : List (ClassId × FieldType)} {av : List Value} {w : va_W} : FrameBlind (va_Pc av (fun U => va_P G vwCl w U.heap ∧ va_K G vwCl tys U)) := fun a U g mk q => by
  obtain ⟨q0, qP, qK⟩ := q
  exact ⟨q0, qP, va_K.moved (u := U) (U := U.calling g mk a) (Vm.Alike.refl U.vm) qK⟩
theorem wr_blind {G : va_G} {tys : List (ClassId × FieldType)} {av : List Value} {w : va_W} {sz : Nat} : FrameBlind (va_Pc av (fun U => U.heap.size = sz ∧ va_P G vwCl w U.heap ∧ va_K G vwCl tys U ∧ va_D (fun _ => True) w)) := fun a U g mk q => by
  obtain ⟨q0, q1, qP, qK, qD⟩ := q
  exact ⟨q0, q1, qP, va_K.moved (u := U) (U := U.calling g mk a) (Vm.Alike.refl U.vm) qK, qD⟩
theorem map_pick {α : Type} {is : List Nat} {f : Nat → Option α} {w : List α} (h : is.map f = w.map some) : is.filterMap f = w := by
  have h1 : is.filterMap f = (is.map f).filterMap id := by rw [List.filterMap_map]; rfl
  rw [h1, h, List.filterMap_map]
  simp
theorem va_D.adr {A : Nat → Prop} {w w' : va_W} (h : va_D A w) (e : w'.map Prod.fst = w.map Prod.fst) : va_D A w' := by
  have key : ∀ (k : Nat) (q : Nat × va_E), w'[k]? = some q → ∃ q0, w[k]? = some q0 ∧ q0.1 = q.1 := by
    intro k q hk
    have h1 : (w'.map Prod.fst)[k]? = some q.1 := by rw [List.getElem?_map, hk]; rfl
    rw [e, List.getElem?_map] at h1
    cases h2 : w[k]? with
    | none => rw [h2] at h1; cases h1
    | some q0 => rw [h2] at h1; exact ⟨q0, rfl, Option.some.inj h1⟩
  refine ⟨fun i j x y hi hj hxy => ?_, fun k q hk => ?_⟩
  · obtain ⟨x0, h1, h2⟩ := key i x hi
    obtain ⟨y0, h3, h4⟩ := key j y hj
    exact h.1 i j x0 y0 h1 h3 (h2.trans (hxy.trans h4.symm))
  · obtain ⟨q0, h1, h2⟩ := key k q hk
    rw [← h2]
    exact h.2 k q0 h1
section QC
variable {p : Program} {l : Launch} {e : Env} {R : Room} {s : State} {m : MethodId} {args : Array Value} {below : List Frame} {meth : Method} {c : Code} {H : Heap} {locs : List Loc} {cells slots : Nat} {Q : State → Prop} {cc : ByteArray} {pc : Nat} {ls : Array Slot} {rest st : List Value}
variable {y : MethodName} {bytes : ByteArray} {maxL nL n index ci N : Nat} {T : u_T} {ret : Option FieldType} {ws Ts : List Cond} {rm : Room} {own C : String} {b : Nat} {As : List Value} {G : va_G} {cI cZ : ClassId} {wc w0 wr : va_W} {z : Int} {A : Nat → Prop} {H0 : Heap}
theorem ro_go {av : Array Value} (hr : va_Run p l e R s m args below meth c H locs cells slots 0 0 (F0 m pc ls st) rest (vp_Si (fun r => r = iI z) av) (fun _ => False)) (kk : W p l e R s m args below meth c H locs cells slots Q (F0 m (pc + 3) ls (.int (iI z) :: rest))) : W p l e R s m args below meth c H locs cells slots Q (F0 m pc ls st) := by
  intro T hT X
  obtain ⟨v, st₀, t, T', L, h0, X', hL, e1, e2, ⟨r, hv, hp, hh⟩, stp⟩ := hr T hT X
  cases hv
  subst hp
  obtain ⟨t2, a1, b1⟩ := kk T' (by rw [e1, hh, h0]) (Stand.forget X' (fun q h => (hL q h).elim))
  exact ⟨t2, stp t2 a1, b1⟩
theorem ro_V (S : CallFix p m c cc nL s args Ts own) (hM : Ro l y ws rm G cI cZ (.ref b :: As) wc z) (cw : CallW R s args own C index y bytes maxL ret ws rm 0 0 n) (hP : va_P G vwCl wc H) (hK : va_K G vwCl (tY cI cZ) s) (q0 : Nat) {fs : List Value} (he : wc[q0]? = some (b, .inr (ci, fs))) (hc : vwCl[ci]? = some (C, T, N)) (hn : As.length = n) (hsize : ls.size = nL) (hst : st = As.reverse ++ .ref b :: rest) (hW : (rest.map fun v => v.category).sum ≤ 8) (hdg : decode cc pc = .ok (.invokevirtual index, 3)) (hf : cells ≤ R.cells ∧ slots ≤ R.slots)
    (kk : W p l e R s m args below meth c H locs cells slots Q (F0 m (pc + 3) ls (.int (iI z) :: rest))) : W p l e R s m args below meth c H locs cells slots Q (F0 m pc ls st) :=
  ro_go (va_runV (g := F0 m pc ls st) S hM cw ⟨ro_blind, va_recv hK hP hc he, fun U hU hW => ⟨rfl, by rw [hU]; exact hP, va_K.moved hW.alike hK⟩⟩ rfl hn hsize hst (lv_room hW) hdg hf) kk
theorem ro_S (S : CallFix p m c cc nL s args Ts own) (hM : Ro l y ws rm G cI cZ As wc z) (cw : CallB R s args own index y bytes maxL ret ws rm 0 0 n ∧ (Cond.static y).before args s = true) (hP : va_P G vwCl wc H) (hK : va_K G vwCl (tY cI cZ) s) (hn : As.length = n) (hsize : ls.size = nL) (hst : st = As.reverse ++ rest) (hW : (rest.map fun v => v.category).sum ≤ 8) (hdg : decode cc pc = .ok (.invokestatic index, 3)) (hf : cells ≤ R.cells ∧ slots ≤ R.slots)
    (kk : W p l e R s m args below meth c H locs cells slots Q (F0 m (pc + 3) ls (.int (iI z) :: rest))) : W p l e R s m args below meth c H locs cells slots Q (F0 m pc ls st) :=
  ro_go (va_runS (g := F0 m pc ls st) S hM cw ⟨ro_blind, fun U hU hW => ⟨rfl, by rw [hU]; exact hP, va_K.moved hW.alike hK⟩⟩ rfl hn hsize hst (lv_room hW) hdg hf) kk
theorem wr_back {A : Nat → Prop} {w1 wn : va_W} {H1 : Heap} (hP : va_P G vwCl w0 H) (hD : va_D A w0) (hS : va_S A H0 H locs) (hA : ∀ q, H0.size ≤ q → A q) (isC isR perm : List Nat) (hC : isC.map (fun i => w0[i]?) = wc.map some) (hR : isR.map (fun i => w0[i]?) = wr.map some) (hn : va_nd isC = true ∧ va_nd isR = true ∧ va_nd perm = true ∧ isR.all (fun i => !isC.contains i) = true) (hadr : w1.map Prod.fst = wc.map Prod.fst) (hperm : perm.map (fun i => (wr ++ w1)[i]?) = wn.map some)
    (hk : ∀ q : Nat, q < H.size → ¬ va_A wc H.size q → H1[q]? = H[q]?) (hP1 : va_P G vwCl w1 H1) : va_P G vwCl wn H1 ∧ va_D A wn := by
  have hFc := va_free (wc := wc) hD hS hA isC hC
  have hDc : va_D (va_A wc H.size) wc := (hD.sub isC hn.1 hC).self
  have hdis : ∀ i ∈ isR, i ∉ isC := by
    intro i hi hi2
    have h1 := List.all_eq_true.mp hn.2.2.2 i hi
    simp at h1
    exact h1 hi2
  obtain ⟨h1, h2⟩ := va_join hP hD isC isR hC hR hn.2.1 hdis hk hFc hP1 (hDc.adr hadr)
  exact ⟨h1.sub perm (map_pick hperm), h2.sub perm hn.2.2.1 hperm⟩
theorem wr_V {S : Type} {post : S → Prop} {wd wn : S → va_W} (Sx : CallFix p m c cc nL s args Ts own) (hM : Wr l y ws rm G cI cZ (.ref b :: As) wc H.size post wd) (cw : CallW R s args own C index y bytes maxL ret ws rm 0 0 n) (hP : va_P G vwCl w0 H) (hK : va_K G vwCl (tY cI cZ) s) (hD : va_D A w0) (hS : va_S A H0 H locs) (hA : ∀ q, H0.size ≤ q → A q) (isC isR perm : List Nat) (hC : isC.map (fun i => w0[i]?) = wc.map some) (hR : isR.map (fun i => w0[i]?) = wr.map some) (hnd : va_nd isC = true ∧ va_nd isR = true ∧ va_nd perm = true ∧ isR.all (fun i => !isC.contains i) = true) (hadr : ∀ u, (wd u).map Prod.fst = wc.map Prod.fst) (hperm : ∀ u, perm.map (fun i => (wr ++ wd u)[i]?) = (wn u).map some)
    (q0 : Nat) {fs : List Value} (he : wc[q0]? = some (b, .inr (ci, fs))) (hc : vwCl[ci]? = some (C, T, N)) (hn : As.length = n) (hsize : ls.size = nL) (hst : st = As.reverse ++ .ref b :: rest) (hW : (rest.map fun v => v.category).sum ≤ 8) (hdg : decode cc pc = .ok (.invokevirtual index, 3)) (hf : cells ≤ R.cells ∧ slots ≤ R.slots)
    (kk : ∀ (u : S) (H1 : Heap) (locs1 : List Loc), post u → va_P G vwCl (wn u) H1 → va_D A (wn u) → va_S A H0 H1 locs1 → W p l e R s m args below meth c H1 locs1 cells slots Q (F0 m (pc + 3) ls rest)) : W p l e R s m args below meth c H locs cells slots Q (F0 m pc ls st) := by
  have hPc := hP.sub isC (map_pick hC)
  have hDc := hD.sub isC hnd.1 hC
  have hFc := va_free (wc := wc) hD hS hA isC hC
  refine va_callv (va_runV (g := F0 m pc ls st) Sx hM cw ⟨wr_blind, va_recv hK hPc hc he, fun U hU hW => ⟨rfl, by rw [hU], by rw [hU]; exact hPc, va_K.moved hW.alike hK, hDc.weaken (fun _ _ _ _ => trivial)⟩⟩ rfl hn hsize hst (lv_room hW) hdg hf) hS (fun q _ h => hFc q h) hFc (fun u t H1 locs1 ht hvm hw hB hz1 hk1 hS1 => ?_)
  rw [ht] at hB
  obtain ⟨h1, h2⟩ := wr_back hP hD hS hA isC isR perm hC hR hnd (hadr u) (hperm u) hk1 hB
  exact kk u H1 locs1 hw h1 h2 hS1
theorem wr_VI {S : Type} {zf : S → Int} {post : S → Prop} {wd wn : S → va_W} (Sx : CallFix p m c cc nL s args Ts own) (hM : WrI l y ws rm G cI cZ (.ref b :: As) wc H.size zf post wd) (cw : CallW R s args own C index y bytes maxL ret ws rm 0 0 n) (hP : va_P G vwCl w0 H) (hK : va_K G vwCl (tY cI cZ) s) (hD : va_D A w0) (hS : va_S A H0 H locs) (hA : ∀ q, H0.size ≤ q → A q) (isC isR perm : List Nat) (hC : isC.map (fun i => w0[i]?) = wc.map some) (hR : isR.map (fun i => w0[i]?) = wr.map some) (hnd : va_nd isC = true ∧ va_nd isR = true ∧ va_nd perm = true ∧ isR.all (fun i => !isC.contains i) = true) (hadr : ∀ u, (wd u).map Prod.fst = wc.map Prod.fst) (hperm : ∀ u, perm.map (fun i => (wr ++ wd u)[i]?) = (wn u).map some)
    (q0 : Nat) {fs : List Value} (he : wc[q0]? = some (b, .inr (ci, fs))) (hc : vwCl[ci]? = some (C, T, N)) (hn : As.length = n) (hsize : ls.size = nL) (hst : st = As.reverse ++ .ref b :: rest) (hW : (rest.map fun v => v.category).sum ≤ 8) (hdg : decode cc pc = .ok (.invokevirtual index, 3)) (hf : cells ≤ R.cells ∧ slots ≤ R.slots)
    (kk : ∀ (u : S) (H1 : Heap) (locs1 : List Loc), post u → va_P G vwCl (wn u) H1 → va_D A (wn u) → va_S A H0 H1 locs1 → W p l e R s m args below meth c H1 locs1 cells slots Q (F0 m (pc + 3) ls (.int (iI (zf u)) :: rest))) : W p l e R s m args below meth c H locs cells slots Q (F0 m pc ls st) := by
  have hPc := hP.sub isC (map_pick hC)
  have hDc := hD.sub isC hnd.1 hC
  have hFc := va_free (wc := wc) hD hS hA isC hC
  refine va_calli (va_runV (g := F0 m pc ls st) Sx hM cw ⟨wr_blind, va_recv hK hPc hc he, fun U hU hW => ⟨rfl, by rw [hU], by rw [hU]; exact hPc, va_K.moved hW.alike hK, hDc.weaken (fun _ _ _ _ => trivial)⟩⟩ rfl hn hsize hst (lv_room hW) hdg hf) hS (fun q _ h => hFc q h) hFc (fun r u t H1 locs1 ht hvm hw hB hz1 hk1 hS1 => ?_)
  rw [ht] at hB
  obtain ⟨hr, hw⟩ := hw
  subst hr
  obtain ⟨h1, h2⟩ := wr_back hP hD hS hA isC isR perm hC hR hnd (hadr u) (hperm u) hk1 hB
  exact kk u H1 locs1 hw h1 h2 hS1
end QC
end
section
/-! what a state is -/
abbrev wIm (cI cZ : ClassId) (h a b : Nat) (n : Nat) (v : Nat → Int) (f : Nat → Bool) : va_W := [(h, .inr (3, [.ref a, .ref b, .int (iI ((n : Nat) : Int))])), (a, .inl (cI, 48, .inl (aI v))), (b, .inl (cZ, 48, .inl (aB f)))]
def vAt (n : Nat) (v : Nat → Int) (x : Int) : Int := if 0 ≤ x ∧ x < ((n : Nat) : Int) then v x.toNat else 0
def fAt (n : Nat) (f : Nat → Bool) (x : Int) : Bool := decide (0 ≤ x ∧ x < ((n : Nat) : Int)) && f x.toNat
abbrev wBl (cI : ClassId) (h a b d : Nat) (k : Nat) (os ns ln : Nat → Nat) : va_W := [(h, .inr (1, [.ref a, .ref b, .ref d, .int (iI ((k : Nat) : Int))])), (a, .inl (cI, 48, .inl (aN os))), (b, .inl (cI, 48, .inl (aN ns))), (d, .inl (cI, 48, .inl (aN ln)))]
abbrev wAl (cI cZ : ClassId) (h a b d : Nat) (ot nt : Nat → Bool) (ru : Nat → Nat) (bo bn bl : Nat) : va_W := [(h, .inr (0, [.ref a, .ref b, .ref d, .int (iI ((bo : Nat) : Int)), .int (iI ((bn : Nat) : Int)), .int (iI ((bl : Nat) : Int))])), (a, .inl (cZ, 48, .inl (aB ot))), (b, .inl (cZ, 48, .inl (aB nt))), (d, .inl (cI, 49, .inl (aN ru)))]
abbrev wCo (cI cZ : ClassId) (h a b d : Nat) (od : Nat → Nat) (wt dr : Nat → Bool) (sp : Nat) : va_W := [(h, .inr (2, [.ref a, .ref b, .ref d, .int (iI ((sp : Nat) : Int))])), (a, .inl (cI, 48, .inl (aN od))), (b, .inl (cZ, 48, .inl (aB wt))), (d, .inl (cZ, 48, .inl (aB dr)))]
/-! the first place of a kind; the best place by a comparison -/
def fst (p : Nat → Bool) : Nat → Nat
  | 0 => 0
  | k + 1 => if fst p k < k then fst p k else if p k = true then k else k + 1
theorem fst_spec (p : Nat → Bool) : ∀ k, (fst p k < k → p (fst p k) = true) ∧ fst p k ≤ k ∧ ∀ i, i < fst p k → p i = false
  | 0 => ⟨fun h => absurd h (Nat.not_lt_zero _), Nat.le_refl _, fun i h => absurd h (Nat.not_lt_zero _)⟩
  | k + 1 => by
    obtain ⟨h1, h2, h3⟩ := fst_spec p k
    unfold fst
    by_cases hk : fst p k < k
    · rw [if_pos hk]
      exact ⟨fun _ => h1 hk, by omega, h3⟩
    · rw [if_neg hk]
      have he : fst p k = k := by omega
      rw [he] at h3
      by_cases hp : p k = true
      · rw [if_pos hp]
        exact ⟨fun _ => hp, by omega, h3⟩
      · rw [if_neg hp]
        refine ⟨fun h => absurd h (Nat.lt_irrefl _), Nat.le_refl _, fun i hi => ?_⟩
        by_cases hik : i = k
        · rw [hik]; simpa using hp
        · exact h3 i (by omega)
theorem fst_hit {p : Nat → Bool} {k j : Nat} (hj : j < k) (hp : p j = true) (hb : ∀ i, i < j → p i = false) : fst p k = j := by
  obtain ⟨h1, h2, h3⟩ := fst_spec p k
  rcases Nat.lt_trichotomy (fst p k) j with h | h | h
  · have := h1 (by omega); rw [hb _ h] at this; cases this
  · exact h
  · have := h3 j h; rw [hp] at this; cases this
theorem fst_none {p : Nat → Bool} {k : Nat} (hb : ∀ i, i < k → p i = false) : fst p k = k := by
  obtain ⟨h1, h2, h3⟩ := fst_spec p k
  by_cases h : fst p k < k
  · have := h1 h; rw [hb _ h] at this; cases this
  · omega
def wI (r k : Nat) (s : Int) : Int := if r < k then (r : Int) else s
theorem wI_hit {r k : Nat} {s : Int} (h : r < k) : wI r k s = (r : Int) := if_pos h
theorem wI_none {k : Nat} {s : Int} : wI k k s = s := if_neg (Nat.lt_irrefl k)
theorem fst_wI {p : Nat → Bool} {k : Nat} {s z : Int} (h : (z = s ∧ ∀ i, i < k → p i = false) ∨ ∃ j, j < k ∧ p j = true ∧ (∀ i, i < j → p i = false) ∧ z = (j : Int)) : z = wI (fst p k) k s := by
  rcases h with ⟨h1, h2⟩ | ⟨j, h1, h2, h3, h4⟩
  · rw [fst_none h2, wI_none, h1]
  · rw [fst_hit h1 h2 h3, wI_hit h1, h4]
def bst (ok : Nat → Bool) (bt : Nat → Nat → Bool) : Nat → Option Nat
  | 0 => none
  | i + 1 => match bst ok bt i with
    | none => if ok i = true then some i else none
    | some g => if ok i = true ∧ bt i g = true then some i else some g
theorem bst_skip {ok : Nat → Bool} {bt : Nat → Nat → Bool} {i : Nat} (h : ok i = false) : bst ok bt (i + 1) = bst ok bt i := by
  show (match bst ok bt i with | none => if ok i = true then some i else none | some g => if ok i = true ∧ bt i g = true then some i else some g) = bst ok bt i
  cases hb : bst ok bt i <;> simp [h]
theorem bst_ns {ok : Nat → Bool} {bt : Nat → Nat → Bool} {i : Nat} (hn : bst ok bt i = none) (h : ok i = true) : bst ok bt (i + 1) = some i := by
  unfold bst; rw [hn]; simp [h]
theorem bst_sk {ok : Nat → Bool} {bt : Nat → Nat → Bool} {i g : Nat} (hn : bst ok bt i = some g) (h : bt i g = false) : bst ok bt (i + 1) = some g := by
  unfold bst; rw [hn]; simp [h]
theorem bst_ss {ok : Nat → Bool} {bt : Nat → Nat → Bool} {i g : Nat} (hn : bst ok bt i = some g) (h : ok i = true) (h2 : bt i g = true) : bst ok bt (i + 1) = some i := by
  unfold bst; rw [hn]; simp [h, h2]
theorem bst_lt {ok : Nat → Bool} {bt : Nat → Nat → Bool} : ∀ {k g : Nat}, bst ok bt k = some g → g < k ∧ ok g = true
  | 0, g, h => by simp [bst] at h
  | k + 1, g, h => by
    unfold bst at h
    cases hb : bst ok bt k with
    | none =>
      rw [hb] at h
      by_cases ho : ok k = true
      · simp [ho] at h; subst h; exact ⟨by omega, ho⟩
      · simp [ho] at h
    | some g0 =>
      rw [hb] at h
      have h0 := bst_lt hb
      by_cases ho : ok k = true ∧ bt k g0 = true
      · simp [ho] at h; subst h; exact ⟨by omega, ho.1⟩
      · have h : (if ok k = true ∧ bt k g0 = true then some k else some g0) = some g := h
        rw [if_neg ho] at h
        cases h
        exact ⟨by omega, h0.2⟩
theorem bst_none {ok : Nat → Bool} {bt : Nat → Nat → Bool} : ∀ {k : Nat}, bst ok bt k = none → ∀ i, i < k → ok i = false
  | 0, _, i, hi => absurd hi (Nat.not_lt_zero _)
  | k + 1, h, i, hi => by
    unfold bst at h
    cases hb : bst ok bt k with
    | none =>
      rw [hb] at h
      by_cases ho : ok k = true
      · simp [ho] at h
      · by_cases hik : i = k
        · rw [hik]; simpa using ho
        · exact bst_none hb i (by omega)
    | some g0 =>
      rw [hb] at h
      by_cases ho : ok k = true ∧ bt k g0 = true
      · simp [ho] at h
      · have h : (if ok k = true ∧ bt k g0 = true then some k else some g0) = none := h
        rw [if_neg ho] at h; cases h
def oV (s : Int) (o : Option Nat) : Int := match o with
  | none => s
  | some g => (g : Int)
theorem oV_none {s : Int} (hs : s < 0) {o : Option Nat} (h : oV s o = s) : o = none := by
  cases o with
  | none => rfl
  | some g => exact absurd h (by show ¬ (g : Int) = s; omega)
theorem oV_some {s : Int} {o : Option Nat} (h : ¬ oV s o = s) : ∃ g, o = some g ∧ oV s o = (g : Int) := by
  cases o with
  | none => exact absurd rfl h
  | some g => exact ⟨g, rfl, rfl⟩
/-! blocks -/
def B48 (k : Nat) (os ns ln : Nat → Nat) : Prop := ∀ j, j < k → os j ≤ 48 ∧ ns j ≤ 48 ∧ ln j ≤ 48
def cv (ns ln : Nat → Nat) (x : Int) (j : Nat) : Bool := decide ((ns j : Int) ≤ x ∧ x < ((ns j + ln j : Nat) : Int))
def wni (k : Nat) (ns ln : Nat → Nat) (x : Int) : Nat := fst (cv ns ln x) k
def gde (os : Nat → Nat) (a : Int) (k : Nat) : Option Nat := bst (fun i => decide ((os i : Int) ≤ a)) (fun i g => decide (os g < os i)) k
def mv (k : Nat) (os ns : Nat → Nat) (a : Int) : Int := match gde os a k with
  | none => a
  | some g => a + (ns g : Int) - (os g : Int)
def mgb (os ns ln : Nat → Nat) (x y : Nat) : Bool := decide (x ≠ y ∧ ns y < os x + ln x ∧ os x < ns y + ln y)
def shf (f : Nat → Nat) (q k : Nat) : Nat → Nat := fun j => if q < j ∧ j ≤ k then f (j - 1) else f j
def ins (f : Nat → Nat) (q k x : Nat) : Nat → Nat := va_up (shf f q k) q x
theorem shf_self (f : Nat → Nat) (k : Nat) : shf f k k = f := by
  funext j; unfold shf; rw [if_neg (by omega)]
theorem shf_lt (f : Nat → Nat) {q k j : Nat} (h : j ≤ q) : shf f q k j = f j := by unfold shf; rw [if_neg (by omega)]
theorem shf_step (f : Nat → Nat) {q k : Nat} (h : 0 < q) (hk : q ≤ k) : va_up (shf f q k) q (f (q - 1)) = shf f (q - 1) k := by
  funext j; unfold va_up shf
  by_cases hj : j = q
  · rw [if_pos hj, if_pos (by omega), hj]
  · rw [if_neg hj]
    by_cases h2 : q < j ∧ j ≤ k
    · rw [if_pos h2, if_pos (by omega)]
    · rw [if_neg h2, if_neg (by omega)]
end
section
set_option maxHeartbeats 4000000 in
set_option maxRecDepth 100000 in
/-- Image.size -/
theorem c_X3_size (l_ : Launch) (G_ : va_G) (cI cZ : ClassId) (h_ a_ b_ : Nat) (n_ : Nat) (v_ : Nat → Int) (f_ : Nat → Bool) : Ro l_ yX3_size wsX3_size ({ frames := 0, cells := 0, slots := 0, locals := 0 }) G_ cI cZ [.ref h_] (wIm cI cZ h_ a_ b_ n_ v_ f_) ((n_ : Nat) : Int) := by
  refine Met.ofW (cc := cX3_size) (maxL := 1) (ret := (some .int)) (by decide) rfl ?_
  intro p_ e_ s_ m_ args below meth c_ s₁ B hml hv
  obtain ⟨hargs, hP_, hK_⟩ := hv
  have hx_ := B.exec
  have hb_ := B.bytes
  have hr := B.returns
  have hts := atoms_spec (ws := wsX3_size) B.pre
  have hown : s_.vm.findClass RX3 = some m_.cls := findClass_of_methodNamed B.named
  have hlocks := B.notSynchronized
  have hi3_ : ∀ w_ ∈ wsX30, w_ ∈ wsX3_size := by decide +kernel
  have hf19_ := hts (.fieldLink RX3 19 "RelocatingPatch$Image" "size" "I") (by decide +kernel)
  have hP_ : va_P G_ vwCl [(h_, .inr (3, [.ref a_, .ref b_, .int (iI ((n_ : Nat) : Int))])), (a_, .inl (cI, 48, .inl (aI v_))), (b_, .inl (cZ, 48, .inl (aB f_)))] s_.heap := hP_
  generalize hQe : MQ below (vp_Si (fun r_ => r_ = iI ((n_ : Nat) : Int))) args s_ 0 0 (fun _ => False) = Q_
  rw [show entryFrame m_ args 1 = entryFrame m_ ([.ref h_] : List Value).toArray 1 from by rw [hargs], lg_entry_eq]
  have hl_ := lv_entry ([.ref h_]) (n := 1) (Nat.le_of_ble_eq_true rfl)
  generalize (lg_sl ([.ref h_]) ++ List.replicate (1 - (lg_sl ([.ref h_])).length) Slot.unset).toArray = ls_ at hl_ ⊢
  have hl_ : lv_has ls_ 1 [(0, .ref h_)] := hl_
  refine lv_aload_n hx_ hb_ dX3_size_0 rfl (lv_at hl_ 0 rfl) ?_
  refine va_get (D := G_) (ci := 3) (v := .int (iI ((n_ : Nat) : Int))) (C := RX3) (T := TX3) (N := 3) hx_ hb_ hts hi3_ hown hK_ hP_ 0 rfl rfl 2 (by decide) hf19_ (fun _ h9 => h9) rfl dX3_size_1 ?_
  rw [← hQe]
  exact W.iret hx_ hb_ hr (fun t_ ht hW => ⟨_, rfl, congrArg iI (by first | rfl | omega), ht⟩) (fun q_ h_ => absurd h_ List.not_mem_nil) dX3_size_4

set_option maxHeartbeats 4000000 in
set_option maxRecDepth 100000 in
/-- Image.isFull -/
theorem c_X3_isFull (l_ : Launch) (G_ : va_G) (cI cZ : ClassId) (h_ a_ b_ : Nat) (n_ : Nat) (v_ : Nat → Int) (f_ : Nat → Bool) (hn_ : n_ ≤ 48) : Ro l_ yX3_isFull wsX3_isFull ({ frames := 0, cells := 0, slots := 0, locals := 0 }) G_ cI cZ [.ref h_] (wIm cI cZ h_ a_ b_ n_ v_ f_) (bZ (decide (48 ≤ n_))) := by
  refine Met.ofW (cc := cX3_isFull) (maxL := 1) (ret := (some .boolean)) (by decide) rfl ?_
  intro p_ e_ s_ m_ args below meth c_ s₁ B hml hv
  obtain ⟨hargs, hP_, hK_⟩ := hv
  have hx_ := B.exec
  have hb_ := B.bytes
  have hr := B.returns
  have hts := atoms_spec (ws := wsX3_isFull) B.pre
  have hown : s_.vm.findClass RX3 = some m_.cls := findClass_of_methodNamed B.named
  have hlocks := B.notSynchronized
  have hi3_ : ∀ w_ ∈ wsX30, w_ ∈ wsX3_isFull := by decide +kernel
  have hf19_ := hts (.fieldLink RX3 19 "RelocatingPatch$Image" "size" "I") (by decide +kernel)
  have hP_ : va_P G_ vwCl [(h_, .inr (3, [.ref a_, .ref b_, .int (iI ((n_ : Nat) : Int))])), (a_, .inl (cI, 48, .inl (aI v_))), (b_, .inl (cZ, 48, .inl (aB f_)))] s_.heap := hP_
  generalize hQe : MQ below (vp_Si (fun r_ => r_ = iI (bZ (decide (48 ≤ n_))))) args s_ 0 0 (fun _ => False) = Q_
  rw [show entryFrame m_ args 1 = entryFrame m_ ([.ref h_] : List Value).toArray 1 from by rw [hargs], lg_entry_eq]
  have hl_ := lv_entry ([.ref h_]) (n := 1) (Nat.le_of_ble_eq_true rfl)
  generalize (lg_sl ([.ref h_]) ++ List.replicate (1 - (lg_sl ([.ref h_])).length) Slot.unset).toArray = ls_ at hl_ ⊢
  have hl_ : lv_has ls_ 1 [(0, .ref h_)] := hl_
  refine lv_aload_n hx_ hb_ dX3_isFull_0 rfl (lv_at hl_ 0 rfl) ?_
  refine va_get (D := G_) (ci := 3) (v := .int (iI ((n_ : Nat) : Int))) (C := RX3) (T := TX3) (N := 3) hx_ hb_ hts hi3_ hown hK_ hP_ 0 rfl rfl 2 (by decide) hf19_ (fun _ h9 => h9) rfl dX3_isFull_1 ?_
  refine lv_bipush (v := iI ((48 : Nat) : Int)) hx_ hb_ dX3_isFull_4 rfl ?_
  refine q_icmp_lt (tgt := 13) hx_ hb_ dX3_isFull_6 (by decide) (⟨by omega, by omega⟩) (⟨by decide, by decide⟩) (fun c6_ => ?_) (fun c6_ => ?_)
  · skip
    refine lv_iconst (v := iI ((0 : Nat) : Int)) hx_ hb_ dX3_isFull_13 rfl ?_
    rw [← hQe]
    refine q_cast (b := bZ false) rfl ?_
    exact W.zret (v := _) hx_ hb_ hr (nar_bZ _) (fun t_ ht hW => ⟨_, rfl, congrArg iI (congrArg bZ (decide_eq_false (by omega)).symm), ht⟩) (fun q_ h_ => absurd h_ List.not_mem_nil) dX3_isFull_14
  · skip
    refine lv_iconst (v := iI ((1 : Nat) : Int)) hx_ hb_ dX3_isFull_9 rfl ?_
    refine lv_goto (tgt := 14) hx_ hb_ dX3_isFull_10 (by decide) ?_
    rw [← hQe]
    refine q_cast (b := bZ true) rfl ?_
    exact W.zret (v := _) hx_ hb_ hr (nar_bZ _) (fun t_ ht hW => ⟨_, rfl, congrArg iI (congrArg bZ (decide_eq_true (by omega)).symm), ht⟩) (fun q_ h_ => absurd h_ List.not_mem_nil) dX3_isFull_14

set_option maxHeartbeats 4000000 in
set_option maxRecDepth 100000 in
/-- Image.holds -/
theorem c_X3_holds (l_ : Launch) (G_ : va_G) (cI cZ : ClassId) (h_ a_ b_ : Nat) (n_ : Nat) (v_ : Nat → Int) (f_ : Nat → Bool) (x_ : Int) (hn_ : n_ ≤ 48) (hx1 : -2147483648 ≤ x_) (hx2 : x_ < 2147483648) : Ro l_ yX3_holds wsX3_holds ({ frames := 0, cells := 0, slots := 0, locals := 0 }) G_ cI cZ [.ref h_, .int (iI (x_))] (wIm cI cZ h_ a_ b_ n_ v_ f_) (bZ (decide (0 ≤ x_ ∧ x_ < ((n_ : Nat) : Int)))) := by
  refine Met.ofW (cc := cX3_holds) (maxL := 2) (ret := (some .boolean)) (by decide) rfl ?_
  intro p_ e_ s_ m_ args below meth c_ s₁ B hml hv
  obtain ⟨hargs, hP_, hK_⟩ := hv
  have hx_ := B.exec
  have hb_ := B.bytes
  have hr := B.returns
  have hts := atoms_spec (ws := wsX3_holds) B.pre
  have hown : s_.vm.findClass RX3 = some m_.cls := findClass_of_methodNamed B.named
  have hlocks := B.notSynchronized
  have hi3_ : ∀ w_ ∈ wsX30, w_ ∈ wsX3_holds := by decide +kernel
  have hf19_ := hts (.fieldLink RX3 19 "RelocatingPatch$Image" "size" "I") (by decide +kernel)
  have hP_ : va_P G_ vwCl [(h_, .inr (3, [.ref a_, .ref b_, .int (iI ((n_ : Nat) : Int))])), (a_, .inl (cI, 48, .inl (aI v_))), (b_, .inl (cZ, 48, .inl (aB f_)))] s_.heap := hP_
  generalize hQe : MQ below (vp_Si (fun r_ => r_ = iI (bZ (decide (0 ≤ x_ ∧ x_ < ((n_ : Nat) : Int)))))) args s_ 0 0 (fun _ => False) = Q_
  rw [show entryFrame m_ args 2 = entryFrame m_ ([.ref h_, .int (iI (x_))] : List Value).toArray 2 from by rw [hargs], lg_entry_eq]
  have hl_ := lv_entry ([.ref h_, .int (iI (x_))]) (n := 2) (Nat.le_of_ble_eq_true rfl)
  generalize (lg_sl ([.ref h_, .int (iI (x_))]) ++ List.replicate (2 - (lg_sl ([.ref h_, .int (iI (x_))])).length) Slot.unset).toArray = ls_ at hl_ ⊢
  have hl_ : lv_has ls_ 2 [(0, .ref h_), (1, .int (iI (x_)))] := hl_
  refine lv_iload_n hx_ hb_ dX3_holds_0 rfl (lv_at hl_ 1 rfl) ?_
  refine q_if_lt (tgt := 16) hx_ hb_ dX3_holds_1 (by decide) (⟨by omega, by omega⟩) (fun c1_ => ?_) (fun c1_ => ?_)
  · skip
    refine lv_iconst (v := iI ((0 : Nat) : Int)) hx_ hb_ dX3_holds_16 rfl ?_
    rw [← hQe]
    refine q_cast (b := bZ false) rfl ?_
    exact W.zret (v := _) hx_ hb_ hr (nar_bZ _) (fun t_ ht hW => ⟨_, rfl, congrArg iI (congrArg bZ (decide_eq_false (by omega)).symm), ht⟩) (fun q_ h_ => absurd h_ List.not_mem_nil) dX3_holds_17
  · skip
    refine lv_iload_n hx_ hb_ dX3_holds_4 rfl (lv_at hl_ 1 rfl) ?_
    refine lv_aload_n hx_ hb_ dX3_holds_5 rfl (lv_at hl_ 0 rfl) ?_
    refine va_get (D := G_) (ci := 3) (v := .int (iI ((n_ : Nat) : Int))) (C := RX3) (T := TX3) (N := 3) hx_ hb_ hts hi3_ hown hK_ hP_ 0 rfl rfl 2 (by decide) hf19_ (fun _ h9 => h9) rfl dX3_holds_6 ?_
    refine q_icmp_ge (tgt := 16) hx_ hb_ dX3_holds_9 (by decide) (⟨by omega, by omega⟩) (⟨by omega, by omega⟩) (fun c9_ => ?_) (fun c9_ => ?_)
    · skip
      refine lv_iconst (v := iI ((0 : Nat) : Int)) hx_ hb_ dX3_holds_16 rfl ?_
      rw [← hQe]
      refine q_cast (b := bZ false) rfl ?_
      exact W.zret (v := _) hx_ hb_ hr (nar_bZ _) (fun t_ ht hW => ⟨_, rfl, congrArg iI (congrArg bZ (decide_eq_false (by omega)).symm), ht⟩) (fun q_ h_ => absurd h_ List.not_mem_nil) dX3_holds_17
    · skip
      refine lv_iconst (v := iI ((1 : Nat) : Int)) hx_ hb_ dX3_holds_12 rfl ?_
      refine lv_goto (tgt := 17) hx_ hb_ dX3_holds_13 (by decide) ?_
      rw [← hQe]
      refine q_cast (b := bZ true) rfl ?_
      exact W.zret (v := _) hx_ hb_ hr (nar_bZ _) (fun t_ ht hW => ⟨_, rfl, congrArg iI (congrArg bZ (decide_eq_true (by omega)).symm), ht⟩) (fun q_ h_ => absurd h_ List.not_mem_nil) dX3_holds_17

set_option maxHeartbeats 4000000 in
set_option maxRecDepth 100000 in
/-- Image.valueAt -/
theorem c_X3_valueAt (l_ : Launch) (G_ : va_G) (cI cZ : ClassId) (h_ a_ b_ : Nat) (n_ : Nat) (v_ : Nat → Int) (f_ : Nat → Bool) (x_ : Int) (hn_ : n_ ≤ 48) (hx1 : -2147483648 ≤ x_) (hx2 : x_ < 2147483648) : Ro l_ yX3_valueAt wsX3_valueAt ({ frames := 1, cells := 0, slots := 0, locals := 21 }) G_ cI cZ [.ref h_, .int (iI (x_))] (wIm cI cZ h_ a_ b_ n_ v_ f_) (vAt n_ v_ x_) := by
  refine Met.ofW (cc := cX3_valueAt) (maxL := 2) (ret := (some .int)) (by decide) rfl ?_
  intro p_ e_ s_ m_ args below meth c_ s₁ B hml hv
  obtain ⟨hargs, hP_, hK_⟩ := hv
  have hx_ := B.exec
  have hb_ := B.bytes
  have hr := B.returns
  have hts := atoms_spec (ws := wsX3_valueAt) B.pre
  have hown : s_.vm.findClass RX3 = some m_.cls := findClass_of_methodNamed B.named
  have hlocks := B.notSynchronized
  have hi3_ : ∀ w_ ∈ wsX30, w_ ∈ wsX3_valueAt := by decide +kernel
  have hf9_ := hts (.fieldLink RX3 9 "RelocatingPatch$Image" "values" "[I") (by decide +kernel)
  have hP_ : va_P G_ vwCl [(h_, .inr (3, [.ref a_, .ref b_, .int (iI ((n_ : Nat) : Int))])), (a_, .inl (cI, 48, .inl (aI v_))), (b_, .inl (cZ, 48, .inl (aB f_)))] s_.heap := hP_
  generalize hQe : MQ below (vp_Si (fun r_ => r_ = iI (vAt n_ v_ x_))) args s_ 0 0 (fun _ => False) = Q_
  rw [show entryFrame m_ args 2 = entryFrame m_ ([.ref h_, .int (iI (x_))] : List Value).toArray 2 from by rw [hargs], lg_entry_eq]
  have hl_ := lv_entry ([.ref h_, .int (iI (x_))]) (n := 2) (Nat.le_of_ble_eq_true rfl)
  generalize (lg_sl ([.ref h_, .int (iI (x_))]) ++ List.replicate (2 - (lg_sl ([.ref h_, .int (iI (x_))])).length) Slot.unset).toArray = ls_ at hl_ ⊢
  have hl_ : lv_has ls_ 2 [(0, .ref h_), (1, .int (iI (x_)))] := hl_
  refine lv_aload_n hx_ hb_ dX3_valueAt_0 rfl (lv_at hl_ 0 rfl) ?_
  refine lv_iload_n hx_ hb_ dX3_valueAt_1 rfl (lv_at hl_ 1 rfl) ?_
  refine ro_V (As := [.int (iI (x_))]) (rest := []) ⟨hx_, hb_, hml, hown, hts⟩ (c_X3_holds l_ G_ cI cZ h_ a_ b_ n_ v_ f_ (x_) (by omega) (by omega) (by omega)) (cwV 1 hts gX3_valueAt_X3_holds rfl rfl rfl (by decide +kernel) ⟨Nat.le_of_ble_eq_true rfl, Nat.le_of_ble_eq_true rfl⟩) (hP_.sub (ws' := [(h_, .inr (3, [.ref a_, .ref b_, .int (iI ((n_ : Nat) : Int))])), (a_, .inl (cI, 48, .inl (aI v_))), (b_, .inl (cZ, 48, .inl (aB f_)))]) [0, 1, 2] rfl) hK_ 0 rfl rfl rfl hl_.1 rfl (Nat.le_of_ble_eq_true rfl) dX3_valueAt_2 ⟨Nat.zero_le _, Nat.zero_le _⟩ ?_
  refine q_df (tgt := 17) hx_ hb_ dX3_valueAt_5 (by decide) (fun c5_ => ?_) (fun c5_ => ?_)
  · skip
    refine lv_iconst (v := iI ((0 : Nat) : Int)) hx_ hb_ dX3_valueAt_17 rfl ?_
    rw [← hQe]
    exact W.iret hx_ hb_ hr (fun t_ ht hW => ⟨_, rfl, congrArg iI (by unfold vAt; rw [if_neg c5_]; rfl), ht⟩) (fun q_ h_ => absurd h_ List.not_mem_nil) dX3_valueAt_18
  · skip
    refine lv_aload_n hx_ hb_ dX3_valueAt_8 rfl (lv_at hl_ 0 rfl) ?_
    refine va_get (D := G_) (ci := 3) (v := .ref a_) (C := RX3) (T := TX3) (N := 3) hx_ hb_ hts hi3_ hown hK_ hP_ 0 rfl rfl 0 (by decide) hf9_ (fun _ h9 => h9) rfl dX3_valueAt_9 ?_
    refine lv_iload_n hx_ hb_ dX3_valueAt_12 rfl (lv_at hl_ 1 rfl) ?_
    refine q_cast (b := ((x_.toNat : Nat) : Int)) (by omega) ?_
    refine q_ildI hx_ hb_ hK_ hP_ 1 rfl (by decide) (x_.toNat) (by omega) (v_ x_.toNat) (rfl) dX3_valueAt_13 ?_
    refine lv_goto (tgt := 18) hx_ hb_ dX3_valueAt_14 (by decide) ?_
    rw [← hQe]
    exact W.iret hx_ hb_ hr (fun t_ ht hW => ⟨_, rfl, congrArg iI (by unfold vAt; rw [if_pos c5_]), ht⟩) (fun q_ h_ => absurd h_ List.not_mem_nil) dX3_valueAt_18

set_option maxHeartbeats 4000000 in
set_option maxRecDepth 100000 in
/-- Image.isAddress -/
theorem c_X3_isAddress (l_ : Launch) (G_ : va_G) (cI cZ : ClassId) (h_ a_ b_ : Nat) (n_ : Nat) (v_ : Nat → Int) (f_ : Nat → Bool) (x_ : Int) (hn_ : n_ ≤ 48) (hx1 : -2147483648 ≤ x_) (hx2 : x_ < 2147483648) : Ro l_ yX3_isAddress wsX3_isAddress ({ frames := 1, cells := 0, slots := 0, locals := 21 }) G_ cI cZ [.ref h_, .int (iI (x_))] (wIm cI cZ h_ a_ b_ n_ v_ f_) (bZ (fAt n_ f_ x_)) := by
  refine Met.ofW (cc := cX3_isAddress) (maxL := 2) (ret := (some .boolean)) (by decide) rfl ?_
  intro p_ e_ s_ m_ args below meth c_ s₁ B hml hv
  obtain ⟨hargs, hP_, hK_⟩ := hv
  have hx_ := B.exec
  have hb_ := B.bytes
  have hr := B.returns
  have hts := atoms_spec (ws := wsX3_isAddress) B.pre
  have hown : s_.vm.findClass RX3 = some m_.cls := findClass_of_methodNamed B.named
  have hlocks := B.notSynchronized
  have hi3_ : ∀ w_ ∈ wsX30, w_ ∈ wsX3_isAddress := by decide +kernel
  have hf15_ := hts (.fieldLink RX3 15 "RelocatingPatch$Image" "addresses" "[Z") (by decide +kernel)
  have hP_ : va_P G_ vwCl [(h_, .inr (3, [.ref a_, .ref b_, .int (iI ((n_ : Nat) : Int))])), (a_, .inl (cI, 48, .inl (aI v_))), (b_, .inl (cZ, 48, .inl (aB f_)))] s_.heap := hP_
  generalize hQe : MQ below (vp_Si (fun r_ => r_ = iI (bZ (fAt n_ f_ x_)))) args s_ 0 0 (fun _ => False) = Q_
  rw [show entryFrame m_ args 2 = entryFrame m_ ([.ref h_, .int (iI (x_))] : List Value).toArray 2 from by rw [hargs], lg_entry_eq]
  have hl_ := lv_entry ([.ref h_, .int (iI (x_))]) (n := 2) (Nat.le_of_ble_eq_true rfl)
  generalize (lg_sl ([.ref h_, .int (iI (x_))]) ++ List.replicate (2 - (lg_sl ([.ref h_, .int (iI (x_))])).length) Slot.unset).toArray = ls_ at hl_ ⊢
  have hl_ : lv_has ls_ 2 [(0, .ref h_), (1, .int (iI (x_)))] := hl_
  refine lv_aload_n hx_ hb_ dX3_isAddress_0 rfl (lv_at hl_ 0 rfl) ?_
  refine lv_iload_n hx_ hb_ dX3_isAddress_1 rfl (lv_at hl_ 1 rfl) ?_
  refine ro_V (As := [.int (iI (x_))]) (rest := []) ⟨hx_, hb_, hml, hown, hts⟩ (c_X3_holds l_ G_ cI cZ h_ a_ b_ n_ v_ f_ (x_) (by omega) (by omega) (by omega)) (cwV 1 hts gX3_isAddress_X3_holds rfl rfl rfl (by decide +kernel) ⟨Nat.le_of_ble_eq_true rfl, Nat.le_of_ble_eq_true rfl⟩) (hP_.sub (ws' := [(h_, .inr (3, [.ref a_, .ref b_, .int (iI ((n_ : Nat) : Int))])), (a_, .inl (cI, 48, .inl (aI v_))), (b_, .inl (cZ, 48, .inl (aB f_)))]) [0, 1, 2] rfl) hK_ 0 rfl rfl rfl hl_.1 rfl (Nat.le_of_ble_eq_true rfl) dX3_isAddress_2 ⟨Nat.zero_le _, Nat.zero_le _⟩ ?_
  refine q_df (tgt := 21) hx_ hb_ dX3_isAddress_5 (by decide) (fun c5_ => ?_) (fun c5_ => ?_)
  · skip
    refine lv_iconst (v := iI ((0 : Nat) : Int)) hx_ hb_ dX3_isAddress_21 rfl ?_
    rw [← hQe]
    refine q_cast (b := bZ false) rfl ?_
    exact W.zret (v := _) hx_ hb_ hr (nar_bZ _) (fun t_ ht hW => ⟨_, rfl, congrArg iI (congrArg bZ (by unfold fAt; rw [decide_eq_false c5_]; rfl)), ht⟩) (fun q_ h_ => absurd h_ List.not_mem_nil) dX3_isAddress_22
  · skip
    refine lv_aload_n hx_ hb_ dX3_isAddress_8 rfl (lv_at hl_ 0 rfl) ?_
    refine va_get (D := G_) (ci := 3) (v := .ref b_) (C := RX3) (T := TX3) (N := 3) hx_ hb_ hts hi3_ hown hK_ hP_ 0 rfl rfl 1 (by decide) hf15_ (fun _ h9 => h9) rfl dX3_isAddress_9 ?_
    refine lv_iload_n hx_ hb_ dX3_isAddress_12 rfl (lv_at hl_ 1 rfl) ?_
    refine q_cast (b := ((x_.toNat : Nat) : Int)) (by omega) ?_
    refine q_zld hx_ hb_ hK_ hP_ 2 rfl (by decide) (x_.toNat) (by omega) (f_ x_.toNat) (rfl) dX3_isAddress_13 ?_
    refine q_bf (tgt := 21) hx_ hb_ dX3_isAddress_14 (by decide) (fun c14_ => ?_) (fun c14_ => ?_)
    · skip
      refine lv_iconst (v := iI ((0 : Nat) : Int)) hx_ hb_ dX3_isAddress_21 rfl ?_
      rw [← hQe]
      refine q_cast (b := bZ false) rfl ?_
      exact W.zret (v := _) hx_ hb_ hr (nar_bZ _) (fun t_ ht hW => ⟨_, rfl, congrArg iI (congrArg bZ (by unfold fAt; rw [c14_]; simp)), ht⟩) (fun q_ h_ => absurd h_ List.not_mem_nil) dX3_isAddress_22
    · skip
      refine lv_iconst (v := iI ((1 : Nat) : Int)) hx_ hb_ dX3_isAddress_17 rfl ?_
      refine lv_goto (tgt := 22) hx_ hb_ dX3_isAddress_18 (by decide) ?_
      rw [← hQe]
      refine q_cast (b := bZ true) rfl ?_
      exact W.zret (v := _) hx_ hb_ hr (nar_bZ _) (fun t_ ht hW => ⟨_, rfl, congrArg iI (congrArg bZ (by unfold fAt; rw [c14_, decide_eq_true c5_]; rfl)), ht⟩) (fun q_ h_ => absurd h_ List.not_mem_nil) dX3_isAddress_22

set_option maxHeartbeats 4000000 in
set_option maxRecDepth 100000 in
/-- Image.add -/
theorem c_X3_add (l_ : Launch) (G_ : va_G) (cI cZ : ClassId) (h_ a_ b_ : Nat) (n_ : Nat) (v_ : Nat → Int) (f_ : Nat → Bool) (x_ : Int) (t_ : Bool) (hn_ : n_ < 48) (sz : Nat) : Wr (S := Unit) l_ yX3_add wsX3_add ({ frames := 1, cells := 0, slots := 0, locals := 20 }) G_ cI cZ [.ref h_, .int (iI (x_)), .int (iI (bZ t_))] (wIm cI cZ h_ a_ b_ n_ v_ f_) sz (fun _ => True) (fun _ => wIm cI cZ h_ a_ b_ (n_ + 1) (va_up v_ n_ x_) (va_up f_ n_ t_)) := by
  refine Met.ofW (cc := cX3_add) (maxL := 3) (ret := (none)) (by decide) rfl ?_
  intro p_ e_ s_ m_ args below meth c_ s₁ B hml hv
  obtain ⟨hargs, hsz, hP_, hK_, hD0⟩ := hv
  have hx_ := B.exec
  have hb_ := B.bytes
  have hr := B.returns
  have hts := atoms_spec (ws := wsX3_add) B.pre
  have hown : s_.vm.findClass RX3 = some m_.cls := findClass_of_methodNamed B.named
  have hlocks := B.notSynchronized
  have hi3_ : ∀ w_ ∈ wsX30, w_ ∈ wsX3_add := by decide +kernel
  have hf9_ := hts (.fieldLink RX3 9 "RelocatingPatch$Image" "values" "[I") (by decide +kernel)
  have hf15_ := hts (.fieldLink RX3 15 "RelocatingPatch$Image" "addresses" "[Z") (by decide +kernel)
  have hf19_ := hts (.fieldLink RX3 19 "RelocatingPatch$Image" "size" "I") (by decide +kernel)
  subst hsz
  have hD_ := hD0.self (sz := s_.heap.size)
  generalize hAe : va_A (wIm cI cZ h_ a_ b_ n_ v_ f_) s_.heap.size = A_ at hD_ ⊢
  have hA_ : ∀ q_ : Nat, s_.heap.size ≤ q_ → A_ q_ := fun q_ h_ => by rw [← hAe]; exact Or.inr h_
  have hS_ : va_S A_ s_.heap s_.heap [] := va_S.rf
  have hP_ : va_P G_ vwCl [(h_, .inr (3, [.ref a_, .ref b_, .int (iI ((n_ : Nat) : Int))])), (a_, .inl (cI, 48, .inl (aI v_))), (b_, .inl (cZ, 48, .inl (aB f_)))] s_.heap := hP_
  have hD_ : va_D A_ [(h_, .inr (3, [.ref a_, .ref b_, .int (iI ((n_ : Nat) : Int))])), (a_, .inl (cI, 48, .inl (aI v_))), (b_, .inl (cZ, 48, .inl (aB f_)))] := hD_
  generalize hQe : MQ below (va_Qv (S := Unit) (fun _ => True) (fun u1 t1 => va_P G_ vwCl ((fun _ => wIm cI cZ h_ a_ b_ (n_ + 1) (va_up v_ n_ x_) (va_up f_ n_ t_)) u1) t1.heap) A_) args s_ 0 0 A_ = Q_
  rw [show entryFrame m_ args 3 = entryFrame m_ ([.ref h_, .int (iI (x_)), .int (iI (bZ t_))] : List Value).toArray 3 from by rw [hargs], lg_entry_eq]
  have hl_ := lv_entry ([.ref h_, .int (iI (x_)), .int (iI (bZ t_))]) (n := 3) (Nat.le_of_ble_eq_true rfl)
  generalize (lg_sl ([.ref h_, .int (iI (x_)), .int (iI (bZ t_))]) ++ List.replicate (3 - (lg_sl ([.ref h_, .int (iI (x_)), .int (iI (bZ t_))])).length) Slot.unset).toArray = ls_ at hl_ ⊢
  have hl_ : lv_has ls_ 3 [(0, .ref h_), (1, .int (iI (x_))), (2, .int (iI (bZ t_)))] := hl_
  refine lv_aload_n hx_ hb_ dX3_add_0 rfl (lv_at hl_ 0 rfl) ?_
  refine ro_V (As := []) (rest := []) ⟨hx_, hb_, hml, hown, hts⟩ (c_X3_isFull l_ G_ cI cZ h_ a_ b_ n_ v_ f_ (by omega)) (cwV 0 hts gX3_add_X3_isFull rfl rfl rfl (by decide +kernel) ⟨Nat.le_of_ble_eq_true rfl, Nat.le_of_ble_eq_true rfl⟩) (hP_.sub (ws' := [(h_, .inr (3, [.ref a_, .ref b_, .int (iI ((n_ : Nat) : Int))])), (a_, .inl (cI, 48, .inl (aI v_))), (b_, .inl (cZ, 48, .inl (aB f_)))]) [0, 1, 2] rfl) hK_ 0 rfl rfl rfl hl_.1 rfl (Nat.le_of_ble_eq_true rfl) dX3_add_1 ⟨Nat.zero_le _, Nat.zero_le _⟩ ?_
  refine q_df (tgt := 8) hx_ hb_ dX3_add_4 (by decide) (fun c4_ => ?_) (fun c4_ => absurd c4_ (by omega))
  refine lv_aload_n hx_ hb_ dX3_add_8 rfl (lv_at hl_ 0 rfl) ?_
  refine va_get (D := G_) (ci := 3) (v := .ref a_) (C := RX3) (T := TX3) (N := 3) hx_ hb_ hts hi3_ hown hK_ hP_ 0 rfl rfl 0 (by decide) hf9_ (fun _ h9 => h9) rfl dX3_add_9 ?_
  refine lv_aload_n hx_ hb_ dX3_add_12 rfl (lv_at hl_ 0 rfl) ?_
  refine va_get (D := G_) (ci := 3) (v := .int (iI ((n_ : Nat) : Int))) (C := RX3) (T := TX3) (N := 3) hx_ hb_ hts hi3_ hown hK_ hP_ 0 rfl rfl 2 (by decide) hf19_ (fun _ h9 => h9) rfl dX3_add_13 ?_
  refine lv_iload_n hx_ hb_ dX3_add_16 rfl (lv_at hl_ 1 rfl) ?_
  refine q_istI hx_ hb_ hK_ hP_ hD_ hS_ 1 rfl (by decide) (n_) (by omega) (x_) dX3_add_17 (ws' := [(h_, .inr (3, [.ref a_, .ref b_, .int (iI ((n_ : Nat) : Int))])), (a_, .inl (cI, 48, .inl (aI (va_up v_ n_ x_)))), (b_, .inl (cZ, 48, .inl (aB f_)))]) rfl (fun H_ locs hP_ hD_ hS_ => ?_)
  refine lv_aload_n hx_ hb_ dX3_add_18 rfl (lv_at hl_ 0 rfl) ?_
  refine va_get (D := G_) (ci := 3) (v := .ref b_) (C := RX3) (T := TX3) (N := 3) hx_ hb_ hts hi3_ hown hK_ hP_ 0 rfl rfl 1 (by decide) hf15_ (fun _ h9 => h9) rfl dX3_add_19 ?_
  refine lv_aload_n hx_ hb_ dX3_add_22 rfl (lv_at hl_ 0 rfl) ?_
  refine va_get (D := G_) (ci := 3) (v := .int (iI ((n_ : Nat) : Int))) (C := RX3) (T := TX3) (N := 3) hx_ hb_ hts hi3_ hown hK_ hP_ 0 rfl rfl 2 (by decide) hf19_ (fun _ h9 => h9) rfl dX3_add_23 ?_
  refine lv_iload_n hx_ hb_ dX3_add_26 rfl (lv_at hl_ 2 rfl) ?_
  refine q_zst hx_ hb_ hK_ hP_ hD_ hS_ 2 rfl (by decide) (n_) (by omega) (t_) dX3_add_27 (ws' := [(h_, .inr (3, [.ref a_, .ref b_, .int (iI ((n_ : Nat) : Int))])), (a_, .inl (cI, 48, .inl (aI (va_up v_ n_ x_)))), (b_, .inl (cZ, 48, .inl (aB (va_up f_ n_ t_))))]) rfl (fun H_ locs hP_ hD_ hS_ => ?_)
  refine lv_aload_n hx_ hb_ dX3_add_28 rfl (lv_at hl_ 0 rfl) ?_
  refine lv_dup hx_ hb_ dX3_add_29 rfl ?_
  refine va_get (D := G_) (ci := 3) (v := .int (iI ((n_ : Nat) : Int))) (C := RX3) (T := TX3) (N := 3) hx_ hb_ hts hi3_ hown hK_ hP_ 0 rfl rfl 2 (by decide) hf19_ (fun _ h9 => h9) rfl dX3_add_30 ?_
  refine lv_iconst (v := iI ((1 : Nat) : Int)) hx_ hb_ dX3_add_33 rfl ?_
  refine q_iaddN hx_ hb_ dX3_add_34 ?_
  refine va_put (D := G_) (ci := 3) (v := .int (iI ((n_ + 1 : Nat) : Int))) (ty := .int) (C := RX3) (T := TX3) (N := 3) hx_ hb_ hts hi3_ tyX3 tyX3_ok nmX3 hown hK_ hP_ hD_ hS_ 0 rfl rfl 2 (by decide) hf19_ (fun _ h9 => h9) rfl (by decide +kernel) rfl rfl (Nat.le_of_ble_eq_true rfl) dX3_add_35 (fun H_ locs hP_ hD_ hS_ => ?_)
  have hP_ : va_P G_ vwCl [(h_, .inr (3, [.ref a_, .ref b_, .int (iI ((n_ + 1 : Nat) : Int))])), (a_, .inl (cI, 48, .inl (aI (va_up v_ n_ x_)))), (b_, .inl (cZ, 48, .inl (aB (va_up f_ n_ t_))))] H_ := hP_
  have hD_ : va_D A_ [(h_, .inr (3, [.ref a_, .ref b_, .int (iI ((n_ + 1 : Nat) : Int))])), (a_, .inl (cI, 48, .inl (aI (va_up v_ n_ x_)))), (b_, .inl (cZ, 48, .inl (aB (va_up f_ n_ t_))))] := hD_
  rw [← hQe]
  exact W.vret hx_ hb_ hr (fun t_ ht hW => ⟨⟨(), rfl, trivial, by show va_P G_ vwCl _ t_.heap; rw [ht]; exact hP_⟩, hS_.F ht⟩) hS_.2.2 dX3_add_38

set_option maxHeartbeats 4000000 in
set_option maxRecDepth 100000 in
/-- Image.replace -/
theorem c_X3_replace (l_ : Launch) (G_ : va_G) (cI cZ : ClassId) (h_ a_ b_ : Nat) (n_ : Nat) (v_ : Nat → Int) (f_ : Nat → Bool) (x_ y_ : Int) (hn_ : n_ ≤ 48) (hx1 : 0 ≤ x_) (hx2 : x_ < (n_ : Int)) (sz : Nat) : Wr (S := Unit) l_ yX3_replace wsX3_replace ({ frames := 1, cells := 0, slots := 0, locals := 21 }) G_ cI cZ [.ref h_, .int (iI (x_)), .int (iI (y_))] (wIm cI cZ h_ a_ b_ n_ v_ f_) sz (fun _ => True) (fun _ => wIm cI cZ h_ a_ b_ n_ (va_up v_ x_.toNat y_) f_) := by
  refine Met.ofW (cc := cX3_replace) (maxL := 3) (ret := (none)) (by decide) rfl ?_
  intro p_ e_ s_ m_ args below meth c_ s₁ B hml hv
  obtain ⟨hargs, hsz, hP_, hK_, hD0⟩ := hv
  have hx_ := B.exec
  have hb_ := B.bytes
  have hr := B.returns
  have hts := atoms_spec (ws := wsX3_replace) B.pre
  have hown : s_.vm.findClass RX3 = some m_.cls := findClass_of_methodNamed B.named
  have hlocks := B.notSynchronized
  have hi3_ : ∀ w_ ∈ wsX30, w_ ∈ wsX3_replace := by decide +kernel
  have hf9_ := hts (.fieldLink RX3 9 "RelocatingPatch$Image" "values" "[I") (by decide +kernel)
  subst hsz
  have hD_ := hD0.self (sz := s_.heap.size)
  generalize hAe : va_A (wIm cI cZ h_ a_ b_ n_ v_ f_) s_.heap.size = A_ at hD_ ⊢
  have hA_ : ∀ q_ : Nat, s_.heap.size ≤ q_ → A_ q_ := fun q_ h_ => by rw [← hAe]; exact Or.inr h_
  have hS_ : va_S A_ s_.heap s_.heap [] := va_S.rf
  have hP_ : va_P G_ vwCl [(h_, .inr (3, [.ref a_, .ref b_, .int (iI ((n_ : Nat) : Int))])), (a_, .inl (cI, 48, .inl (aI v_))), (b_, .inl (cZ, 48, .inl (aB f_)))] s_.heap := hP_
  have hD_ : va_D A_ [(h_, .inr (3, [.ref a_, .ref b_, .int (iI ((n_ : Nat) : Int))])), (a_, .inl (cI, 48, .inl (aI v_))), (b_, .inl (cZ, 48, .inl (aB f_)))] := hD_
  generalize hQe : MQ below (va_Qv (S := Unit) (fun _ => True) (fun u1 t1 => va_P G_ vwCl ((fun _ => wIm cI cZ h_ a_ b_ n_ (va_up v_ x_.toNat y_) f_) u1) t1.heap) A_) args s_ 0 0 A_ = Q_
  rw [show entryFrame m_ args 3 = entryFrame m_ ([.ref h_, .int (iI (x_)), .int (iI (y_))] : List Value).toArray 3 from by rw [hargs], lg_entry_eq]
  have hl_ := lv_entry ([.ref h_, .int (iI (x_)), .int (iI (y_))]) (n := 3) (Nat.le_of_ble_eq_true rfl)
  generalize (lg_sl ([.ref h_, .int (iI (x_)), .int (iI (y_))]) ++ List.replicate (3 - (lg_sl ([.ref h_, .int (iI (x_)), .int (iI (y_))])).length) Slot.unset).toArray = ls_ at hl_ ⊢
  have hl_ : lv_has ls_ 3 [(0, .ref h_), (1, .int (iI (x_))), (2, .int (iI (y_)))] := hl_
  refine lv_aload_n hx_ hb_ dX3_replace_0 rfl (lv_at hl_ 0 rfl) ?_
  refine lv_iload_n hx_ hb_ dX3_replace_1 rfl (lv_at hl_ 1 rfl) ?_
  refine ro_V (As := [.int (iI (x_))]) (rest := []) ⟨hx_, hb_, hml, hown, hts⟩ (c_X3_holds l_ G_ cI cZ h_ a_ b_ n_ v_ f_ (x_) (by omega) (by omega) (by omega)) (cwV 1 hts gX3_replace_X3_holds rfl rfl rfl (by decide +kernel) ⟨Nat.le_of_ble_eq_true rfl, Nat.le_of_ble_eq_true rfl⟩) (hP_.sub (ws' := [(h_, .inr (3, [.ref a_, .ref b_, .int (iI ((n_ : Nat) : Int))])), (a_, .inl (cI, 48, .inl (aI v_))), (b_, .inl (cZ, 48, .inl (aB f_)))]) [0, 1, 2] rfl) hK_ 0 rfl rfl rfl hl_.1 rfl (Nat.le_of_ble_eq_true rfl) dX3_replace_2 ⟨Nat.zero_le _, Nat.zero_le _⟩ ?_
  refine q_df (tgt := 15) hx_ hb_ dX3_replace_5 (by decide) (fun c5_ => absurd c5_ (by omega)) (fun c5_ => ?_)
  refine lv_aload_n hx_ hb_ dX3_replace_8 rfl (lv_at hl_ 0 rfl) ?_
  refine va_get (D := G_) (ci := 3) (v := .ref a_) (C := RX3) (T := TX3) (N := 3) hx_ hb_ hts hi3_ hown hK_ hP_ 0 rfl rfl 0 (by decide) hf9_ (fun _ h9 => h9) rfl dX3_replace_9 ?_
  refine lv_iload_n hx_ hb_ dX3_replace_12 rfl (lv_at hl_ 1 rfl) ?_
  refine q_cast (b := ((x_.toNat : Nat) : Int)) (by omega) ?_
  refine lv_iload_n hx_ hb_ dX3_replace_13 rfl (lv_at hl_ 2 rfl) ?_
  refine q_istI hx_ hb_ hK_ hP_ hD_ hS_ 1 rfl (by decide) (x_.toNat) (by omega) (y_) dX3_replace_14 (ws' := [(h_, .inr (3, [.ref a_, .ref b_, .int (iI ((n_ : Nat) : Int))])), (a_, .inl (cI, 48, .inl (aI (va_up v_ x_.toNat y_)))), (b_, .inl (cZ, 48, .inl (aB f_)))]) rfl (fun H_ locs hP_ hD_ hS_ => ?_)
  rw [← hQe]
  exact W.vret hx_ hb_ hr (fun t_ ht hW => ⟨⟨(), rfl, trivial, by show va_P G_ vwCl _ t_.heap; rw [ht]; exact hP_⟩, hS_.F ht⟩) hS_.2.2 dX3_replace_15

set_option maxHeartbeats 4000000 in
set_option maxRecDepth 100000 in
/-- Image.removeAll -/
theorem c_X3_removeAll (l_ : Launch) (G_ : va_G) (cI cZ : ClassId) (h_ a_ b_ : Nat) (n_ : Nat) (v_ : Nat → Int) (f_ : Nat → Bool) (sz : Nat) : Wr (S := Unit) l_ yX3_removeAll wsX3_removeAll ({ frames := 0, cells := 0, slots := 0, locals := 0 }) G_ cI cZ [.ref h_] (wIm cI cZ h_ a_ b_ n_ v_ f_) sz (fun _ => True) (fun _ => wIm cI cZ h_ a_ b_ 0 v_ f_) := by
  refine Met.ofW (cc := cX3_removeAll) (maxL := 1) (ret := (none)) (by decide) rfl ?_
  intro p_ e_ s_ m_ args below meth c_ s₁ B hml hv
  obtain ⟨hargs, hsz, hP_, hK_, hD0⟩ := hv
  have hx_ := B.exec
  have hb_ := B.bytes
  have hr := B.returns
  have hts := atoms_spec (ws := wsX3_removeAll) B.pre
  have hown : s_.vm.findClass RX3 = some m_.cls := findClass_of_methodNamed B.named
  have hlocks := B.notSynchronized
  have hi3_ : ∀ w_ ∈ wsX30, w_ ∈ wsX3_removeAll := by decide +kernel
  have hf19_ := hts (.fieldLink RX3 19 "RelocatingPatch$Image" "size" "I") (by decide +kernel)
  subst hsz
  have hD_ := hD0.self (sz := s_.heap.size)
  generalize hAe : va_A (wIm cI cZ h_ a_ b_ n_ v_ f_) s_.heap.size = A_ at hD_ ⊢
  have hA_ : ∀ q_ : Nat, s_.heap.size ≤ q_ → A_ q_ := fun q_ h_ => by rw [← hAe]; exact Or.inr h_
  have hS_ : va_S A_ s_.heap s_.heap [] := va_S.rf
  have hP_ : va_P G_ vwCl [(h_, .inr (3, [.ref a_, .ref b_, .int (iI ((n_ : Nat) : Int))])), (a_, .inl (cI, 48, .inl (aI v_))), (b_, .inl (cZ, 48, .inl (aB f_)))] s_.heap := hP_
  have hD_ : va_D A_ [(h_, .inr (3, [.ref a_, .ref b_, .int (iI ((n_ : Nat) : Int))])), (a_, .inl (cI, 48, .inl (aI v_))), (b_, .inl (cZ, 48, .inl (aB f_)))] := hD_
  generalize hQe : MQ below (va_Qv (S := Unit) (fun _ => True) (fun u1 t1 => va_P G_ vwCl ((fun _ => wIm cI cZ h_ a_ b_ 0 v_ f_) u1) t1.heap) A_) args s_ 0 0 A_ = Q_
  rw [show entryFrame m_ args 1 = entryFrame m_ ([.ref h_] : List Value).toArray 1 from by rw [hargs], lg_entry_eq]
  have hl_ := lv_entry ([.ref h_]) (n := 1) (Nat.le_of_ble_eq_true rfl)
  generalize (lg_sl ([.ref h_]) ++ List.replicate (1 - (lg_sl ([.ref h_])).length) Slot.unset).toArray = ls_ at hl_ ⊢
  have hl_ : lv_has ls_ 1 [(0, .ref h_)] := hl_
  refine lv_aload_n hx_ hb_ dX3_removeAll_0 rfl (lv_at hl_ 0 rfl) ?_
  refine lv_iconst (v := iI ((0 : Nat) : Int)) hx_ hb_ dX3_removeAll_1 rfl ?_
  refine va_put (D := G_) (ci := 3) (v := .int (iI ((0 : Nat) : Int))) (ty := .int) (C := RX3) (T := TX3) (N := 3) hx_ hb_ hts hi3_ tyX3 tyX3_ok nmX3 hown hK_ hP_ hD_ hS_ 0 rfl rfl 2 (by decide) hf19_ (fun _ h9 => h9) rfl (by decide +kernel) rfl rfl (Nat.le_of_ble_eq_true rfl) dX3_removeAll_2 (fun H_ locs hP_ hD_ hS_ => ?_)
  have hP_ : va_P G_ vwCl [(h_, .inr (3, [.ref a_, .ref b_, .int (iI ((0 : Nat) : Int))])), (a_, .inl (cI, 48, .inl (aI v_))), (b_, .inl (cZ, 48, .inl (aB f_)))] H_ := hP_
  have hD_ : va_D A_ [(h_, .inr (3, [.ref a_, .ref b_, .int (iI ((0 : Nat) : Int))])), (a_, .inl (cI, 48, .inl (aI v_))), (b_, .inl (cZ, 48, .inl (aB f_)))] := hD_
  rw [← hQe]
  exact W.vret hx_ hb_ hr (fun t_ ht hW => ⟨⟨(), rfl, trivial, by show va_P G_ vwCl _ t_.heap; rw [ht]; exact hP_⟩, hS_.F ht⟩) hS_.2.2 dX3_removeAll_5
end
section
set_option maxHeartbeats 4000000 in
set_option maxRecDepth 100000 in
/-- Blocks.size -/
theorem c_X1_size (l_ : Launch) (G_ : va_G) (cI cZ : ClassId) (h_ a_ b_ d_ : Nat) (k_ : Nat) (os_ ns_ ln_ : Nat → Nat) : Ro l_ yX1_size wsX1_size ({ frames := 0, cells := 0, slots := 0, locals := 0 }) G_ cI cZ [.ref h_] (wBl cI h_ a_ b_ d_ k_ os_ ns_ ln_) ((k_ : Nat) : Int) := by
  refine Met.ofW (cc := cX1_size) (maxL := 1) (ret := (some .int)) (by decide) rfl ?_
  intro p_ e_ s_ m_ args below meth c_ s₁ B hml hv
  obtain ⟨hargs, hP_, hK_⟩ := hv
  have hx_ := B.exec
  have hb_ := B.bytes
  have hr := B.returns
  have hts := atoms_spec (ws := wsX1_size) B.pre
  have hown : s_.vm.findClass RX1 = some m_.cls := findClass_of_methodNamed B.named
  have hlocks := B.notSynchronized
  have hi1_ : ∀ w_ ∈ wsX10, w_ ∈ wsX1_size := by decide +kernel
  have hf21_ := hts (.fieldLink RX1 21 "RelocatingPatch$Blocks" "size" "I") (by decide +kernel)
  have hP_ : va_P G_ vwCl [(h_, .inr (1, [.ref a_, .ref b_, .ref d_, .int (iI ((k_ : Nat) : Int))])), (a_, .inl (cI, 48, .inl (aN os_))), (b_, .inl (cI, 48, .inl (aN ns_))), (d_, .inl (cI, 48, .inl (aN ln_)))] s_.heap := hP_
  generalize hQe : MQ below (vp_Si (fun r_ => r_ = iI ((k_ : Nat) : Int))) args s_ 0 0 (fun _ => False) = Q_
  rw [show entryFrame m_ args 1 = entryFrame m_ ([.ref h_] : List Value).toArray 1 from by rw [hargs], lg_entry_eq]
  have hl_ := lv_entry ([.ref h_]) (n := 1) (Nat.le_of_ble_eq_true rfl)
  generalize (lg_sl ([.ref h_]) ++ List.replicate (1 - (lg_sl ([.ref h_])).length) Slot.unset).toArray = ls_ at hl_ ⊢
  have hl_ : lv_has ls_ 1 [(0, .ref h_)] := hl_
  refine lv_aload_n hx_ hb_ dX1_size_0 rfl (lv_at hl_ 0 rfl) ?_
  refine va_get (D := G_) (ci := 1) (v := .int (iI ((k_ : Nat) : Int))) (C := RX1) (T := TX1) (N := 4) hx_ hb_ hts hi1_ hown hK_ hP_ 0 rfl rfl 3 (by decide) hf21_ (fun _ h9 => h9) rfl dX1_size_1 ?_
  rw [← hQe]
  exact W.iret hx_ hb_ hr (fun tt1 htt1 hWW1 => ⟨_, rfl, congrArg iI (by first | rfl | omega), htt1⟩) (fun q_ h_ => absurd h_ List.not_mem_nil) dX1_size_4

set_option maxHeartbeats 4000000 in
set_option maxRecDepth 100000 in
/-- Blocks.has -/
theorem c_X1_has (l_ : Launch) (G_ : va_G) (cI cZ : ClassId) (h_ a_ b_ d_ : Nat) (k_ : Nat) (os_ ns_ ln_ : Nat → Nat) (x_ : Int) (hk_ : k_ ≤ 48) (hx1 : -2147483648 ≤ x_) (hx2 : x_ < 2147483648) : Ro l_ yX1_has wsX1_has ({ frames := 0, cells := 0, slots := 0, locals := 0 }) G_ cI cZ [.ref h_, .int (iI (x_))] (wBl cI h_ a_ b_ d_ k_ os_ ns_ ln_) (bZ (decide (0 ≤ x_ ∧ x_ < ((k_ : Nat) : Int)))) := by
  refine Met.ofW (cc := cX1_has) (maxL := 2) (ret := (some .boolean)) (by decide) rfl ?_
  intro p_ e_ s_ m_ args below meth c_ s₁ B hml hv
  obtain ⟨hargs, hP_, hK_⟩ := hv
  have hx_ := B.exec
  have hb_ := B.bytes
  have hr := B.returns
  have hts := atoms_spec (ws := wsX1_has) B.pre
  have hown : s_.vm.findClass RX1 = some m_.cls := findClass_of_methodNamed B.named
  have hlocks := B.notSynchronized
  have hi1_ : ∀ w_ ∈ wsX10, w_ ∈ wsX1_has := by decide +kernel
  have hf21_ := hts (.fieldLink RX1 21 "RelocatingPatch$Blocks" "size" "I") (by decide +kernel)
  have hP_ : va_P G_ vwCl [(h_, .inr (1, [.ref a_, .ref b_, .ref d_, .int (iI ((k_ : Nat) : Int))])), (a_, .inl (cI, 48, .inl (aN os_))), (b_, .inl (cI, 48, .inl (aN ns_))), (d_, .inl (cI, 48, .inl (aN ln_)))] s_.heap := hP_
  generalize hQe : MQ below (vp_Si (fun r_ => r_ = iI (bZ (decide (0 ≤ x_ ∧ x_ < ((k_ : Nat) : Int)))))) args s_ 0 0 (fun _ => False) = Q_
  rw [show entryFrame m_ args 2 = entryFrame m_ ([.ref h_, .int (iI (x_))] : List Value).toArray 2 from by rw [hargs], lg_entry_eq]
  have hl_ := lv_entry ([.ref h_, .int (iI (x_))]) (n := 2) (Nat.le_of_ble_eq_true rfl)
  generalize (lg_sl ([.ref h_, .int (iI (x_))]) ++ List.replicate (2 - (lg_sl ([.ref h_, .int (iI (x_))])).length) Slot.unset).toArray = ls_ at hl_ ⊢
  have hl_ : lv_has ls_ 2 [(0, .ref h_), (1, .int (iI (x_)))] := hl_
  refine lv_iload_n hx_ hb_ dX1_has_0 rfl (lv_at hl_ 1 rfl) ?_
  refine q_if_lt (tgt := 16) hx_ hb_ dX1_has_1 (by decide) (⟨by omega, by omega⟩) (fun c1_ => ?_) (fun c1_ => ?_)
  · skip
    refine lv_iconst (v := iI ((0 : Nat) : Int)) hx_ hb_ dX1_has_16 rfl ?_
    rw [← hQe]
    refine q_cast (b := bZ false) rfl ?_
    exact W.zret (v := _) hx_ hb_ hr (nar_bZ _) (fun tt1 htt1 hWW1 => ⟨_, rfl, congrArg iI (congrArg bZ (decide_eq_false (by omega)).symm), htt1⟩) (fun q_ h_ => absurd h_ List.not_mem_nil) dX1_has_17
  · skip
    refine lv_iload_n hx_ hb_ dX1_has_4 rfl (lv_at hl_ 1 rfl) ?_
    refine lv_aload_n hx_ hb_ dX1_has_5 rfl (lv_at hl_ 0 rfl) ?_
    refine va_get (D := G_) (ci := 1) (v := .int (iI ((k_ : Nat) : Int))) (C := RX1) (T := TX1) (N := 4) hx_ hb_ hts hi1_ hown hK_ hP_ 0 rfl rfl 3 (by decide) hf21_ (fun _ h9 => h9) rfl dX1_has_6 ?_
    refine q_icmp_ge (tgt := 16) hx_ hb_ dX1_has_9 (by decide) (⟨by omega, by omega⟩) (⟨by omega, by omega⟩) (fun c9_ => ?_) (fun c9_ => ?_)
    · skip
      refine lv_iconst (v := iI ((0 : Nat) : Int)) hx_ hb_ dX1_has_16 rfl ?_
      rw [← hQe]
      refine q_cast (b := bZ false) rfl ?_
      exact W.zret (v := _) hx_ hb_ hr (nar_bZ _) (fun tt1 htt1 hWW1 => ⟨_, rfl, congrArg iI (congrArg bZ (decide_eq_false (by omega)).symm), htt1⟩) (fun q_ h_ => absurd h_ List.not_mem_nil) dX1_has_17
    · skip
      refine lv_iconst (v := iI ((1 : Nat) : Int)) hx_ hb_ dX1_has_12 rfl ?_
      refine lv_goto (tgt := 17) hx_ hb_ dX1_has_13 (by decide) ?_
      rw [← hQe]
      refine q_cast (b := bZ true) rfl ?_
      exact W.zret (v := _) hx_ hb_ hr (nar_bZ _) (fun tt1 htt1 hWW1 => ⟨_, rfl, congrArg iI (congrArg bZ (decide_eq_true (by omega)).symm), htt1⟩) (fun q_ h_ => absurd h_ List.not_mem_nil) dX1_has_17

set_option maxHeartbeats 4000000 in
set_option maxRecDepth 100000 in
/-- Blocks.oldStart -/
theorem c_X1_oldStart (l_ : Launch) (G_ : va_G) (cI cZ : ClassId) (h_ a_ b_ d_ : Nat) (k_ : Nat) (os_ ns_ ln_ : Nat → Nat) (j_ : Nat) (hk_ : k_ ≤ 48) (hj_ : j_ < k_) : Ro l_ yX1_oldStart wsX1_oldStart ({ frames := 1, cells := 0, slots := 0, locals := 21 }) G_ cI cZ [.ref h_, .int (iI ((j_ : Nat) : Int))] (wBl cI h_ a_ b_ d_ k_ os_ ns_ ln_) ((os_ j_ : Nat) : Int) := by
  refine Met.ofW (cc := cX1_oldStart) (maxL := 2) (ret := (some .int)) (by decide) rfl ?_
  intro p_ e_ s_ m_ args below meth c_ s₁ B hml hv
  obtain ⟨hargs, hP_, hK_⟩ := hv
  have hx_ := B.exec
  have hb_ := B.bytes
  have hr := B.returns
  have hts := atoms_spec (ws := wsX1_oldStart) B.pre
  have hown : s_.vm.findClass RX1 = some m_.cls := findClass_of_methodNamed B.named
  have hlocks := B.notSynchronized
  have hi1_ : ∀ w_ ∈ wsX10, w_ ∈ wsX1_oldStart := by decide +kernel
  have hf9_ := hts (.fieldLink RX1 9 "RelocatingPatch$Blocks" "oldStarts" "[I") (by decide +kernel)
  have hP_ : va_P G_ vwCl [(h_, .inr (1, [.ref a_, .ref b_, .ref d_, .int (iI ((k_ : Nat) : Int))])), (a_, .inl (cI, 48, .inl (aN os_))), (b_, .inl (cI, 48, .inl (aN ns_))), (d_, .inl (cI, 48, .inl (aN ln_)))] s_.heap := hP_
  generalize hQe : MQ below (vp_Si (fun r_ => r_ = iI ((os_ j_ : Nat) : Int))) args s_ 0 0 (fun _ => False) = Q_
  rw [show entryFrame m_ args 2 = entryFrame m_ ([.ref h_, .int (iI ((j_ : Nat) : Int))] : List Value).toArray 2 from by rw [hargs], lg_entry_eq]
  have hl_ := lv_entry ([.ref h_, .int (iI ((j_ : Nat) : Int))]) (n := 2) (Nat.le_of_ble_eq_true rfl)
  generalize (lg_sl ([.ref h_, .int (iI ((j_ : Nat) : Int))]) ++ List.replicate (2 - (lg_sl ([.ref h_, .int (iI ((j_ : Nat) : Int))])).length) Slot.unset).toArray = ls_ at hl_ ⊢
  have hl_ : lv_has ls_ 2 [(0, .ref h_), (1, .int (iI ((j_ : Nat) : Int)))] := hl_
  refine lv_aload_n hx_ hb_ dX1_oldStart_0 rfl (lv_at hl_ 0 rfl) ?_
  refine lv_iload_n hx_ hb_ dX1_oldStart_1 rfl (lv_at hl_ 1 rfl) ?_
  refine ro_V (As := [.int (iI ((j_ : Nat) : Int))]) (rest := []) ⟨hx_, hb_, hml, hown, hts⟩ (c_X1_has l_ G_ cI cZ h_ a_ b_ d_ k_ os_ ns_ ln_ ((j_ : Nat) : Int) (by omega) (by omega) (by omega)) (cwV 1 hts gX1_oldStart_X1_has rfl rfl rfl (by decide +kernel) ⟨Nat.le_of_ble_eq_true rfl, Nat.le_of_ble_eq_true rfl⟩) (hP_.sub (ws' := [(h_, .inr (1, [.ref a_, .ref b_, .ref d_, .int (iI ((k_ : Nat) : Int))])), (a_, .inl (cI, 48, .inl (aN os_))), (b_, .inl (cI, 48, .inl (aN ns_))), (d_, .inl (cI, 48, .inl (aN ln_)))]) [0, 1, 2, 3] rfl) hK_ 0 rfl rfl rfl hl_.1 rfl (Nat.le_of_ble_eq_true rfl) dX1_oldStart_2 ⟨Nat.zero_le _, Nat.zero_le _⟩ ?_
  refine q_df (tgt := 17) hx_ hb_ dX1_oldStart_5 (by decide) (fun c5_ => absurd c5_ (by omega)) (fun c5_ => ?_)
  refine lv_aload_n hx_ hb_ dX1_oldStart_8 rfl (lv_at hl_ 0 rfl) ?_
  refine va_get (D := G_) (ci := 1) (v := .ref a_) (C := RX1) (T := TX1) (N := 4) hx_ hb_ hts hi1_ hown hK_ hP_ 0 rfl rfl 0 (by decide) hf9_ (fun _ h9 => h9) rfl dX1_oldStart_9 ?_
  refine lv_iload_n hx_ hb_ dX1_oldStart_12 rfl (lv_at hl_ 1 rfl) ?_
  refine q_ildN hx_ hb_ hK_ hP_ 1 rfl (by decide) (j_) (by omega) (os_ j_) (rfl) dX1_oldStart_13 ?_
  refine lv_goto (tgt := 18) hx_ hb_ dX1_oldStart_14 (by decide) ?_
  rw [← hQe]
  exact W.iret hx_ hb_ hr (fun tt1 htt1 hWW1 => ⟨_, rfl, congrArg iI (by first | rfl | omega), htt1⟩) (fun q_ h_ => absurd h_ List.not_mem_nil) dX1_oldStart_18

set_option maxHeartbeats 4000000 in
set_option maxRecDepth 100000 in
/-- Blocks.newStart -/
theorem c_X1_newStart (l_ : Launch) (G_ : va_G) (cI cZ : ClassId) (h_ a_ b_ d_ : Nat) (k_ : Nat) (os_ ns_ ln_ : Nat → Nat) (j_ : Nat) (hk_ : k_ ≤ 48) (hj_ : j_ < k_) : Ro l_ yX1_newStart wsX1_newStart ({ frames := 1, cells := 0, slots := 0, locals := 21 }) G_ cI cZ [.ref h_, .int (iI ((j_ : Nat) : Int))] (wBl cI h_ a_ b_ d_ k_ os_ ns_ ln_) ((ns_ j_ : Nat) : Int) := by
  refine Met.ofW (cc := cX1_newStart) (maxL := 2) (ret := (some .int)) (by decide) rfl ?_
  intro p_ e_ s_ m_ args below meth c_ s₁ B hml hv
  obtain ⟨hargs, hP_, hK_⟩ := hv
  have hx_ := B.exec
  have hb_ := B.bytes
  have hr := B.returns
  have hts := atoms_spec (ws := wsX1_newStart) B.pre
  have hown : s_.vm.findClass RX1 = some m_.cls := findClass_of_methodNamed B.named
  have hlocks := B.notSynchronized
  have hi1_ : ∀ w_ ∈ wsX10, w_ ∈ wsX1_newStart := by decide +kernel
  have hf15_ := hts (.fieldLink RX1 15 "RelocatingPatch$Blocks" "newStarts" "[I") (by decide +kernel)
  have hP_ : va_P G_ vwCl [(h_, .inr (1, [.ref a_, .ref b_, .ref d_, .int (iI ((k_ : Nat) : Int))])), (a_, .inl (cI, 48, .inl (aN os_))), (b_, .inl (cI, 48, .inl (aN ns_))), (d_, .inl (cI, 48, .inl (aN ln_)))] s_.heap := hP_
  generalize hQe : MQ below (vp_Si (fun r_ => r_ = iI ((ns_ j_ : Nat) : Int))) args s_ 0 0 (fun _ => False) = Q_
  rw [show entryFrame m_ args 2 = entryFrame m_ ([.ref h_, .int (iI ((j_ : Nat) : Int))] : List Value).toArray 2 from by rw [hargs], lg_entry_eq]
  have hl_ := lv_entry ([.ref h_, .int (iI ((j_ : Nat) : Int))]) (n := 2) (Nat.le_of_ble_eq_true rfl)
  generalize (lg_sl ([.ref h_, .int (iI ((j_ : Nat) : Int))]) ++ List.replicate (2 - (lg_sl ([.ref h_, .int (iI ((j_ : Nat) : Int))])).length) Slot.unset).toArray = ls_ at hl_ ⊢
  have hl_ : lv_has ls_ 2 [(0, .ref h_), (1, .int (iI ((j_ : Nat) : Int)))] := hl_
  refine lv_aload_n hx_ hb_ dX1_newStart_0 rfl (lv_at hl_ 0 rfl) ?_
  refine lv_iload_n hx_ hb_ dX1_newStart_1 rfl (lv_at hl_ 1 rfl) ?_
  refine ro_V (As := [.int (iI ((j_ : Nat) : Int))]) (rest := []) ⟨hx_, hb_, hml, hown, hts⟩ (c_X1_has l_ G_ cI cZ h_ a_ b_ d_ k_ os_ ns_ ln_ ((j_ : Nat) : Int) (by omega) (by omega) (by omega)) (cwV 1 hts gX1_newStart_X1_has rfl rfl rfl (by decide +kernel) ⟨Nat.le_of_ble_eq_true rfl, Nat.le_of_ble_eq_true rfl⟩) (hP_.sub (ws' := [(h_, .inr (1, [.ref a_, .ref b_, .ref d_, .int (iI ((k_ : Nat) : Int))])), (a_, .inl (cI, 48, .inl (aN os_))), (b_, .inl (cI, 48, .inl (aN ns_))), (d_, .inl (cI, 48, .inl (aN ln_)))]) [0, 1, 2, 3] rfl) hK_ 0 rfl rfl rfl hl_.1 rfl (Nat.le_of_ble_eq_true rfl) dX1_newStart_2 ⟨Nat.zero_le _, Nat.zero_le _⟩ ?_
  refine q_df (tgt := 17) hx_ hb_ dX1_newStart_5 (by decide) (fun c5_ => absurd c5_ (by omega)) (fun c5_ => ?_)
  refine lv_aload_n hx_ hb_ dX1_newStart_8 rfl (lv_at hl_ 0 rfl) ?_
  refine va_get (D := G_) (ci := 1) (v := .ref b_) (C := RX1) (T := TX1) (N := 4) hx_ hb_ hts hi1_ hown hK_ hP_ 0 rfl rfl 1 (by decide) hf15_ (fun _ h9 => h9) rfl dX1_newStart_9 ?_
  refine lv_iload_n hx_ hb_ dX1_newStart_12 rfl (lv_at hl_ 1 rfl) ?_
  refine q_ildN hx_ hb_ hK_ hP_ 2 rfl (by decide) (j_) (by omega) (ns_ j_) (rfl) dX1_newStart_13 ?_
  refine lv_goto (tgt := 18) hx_ hb_ dX1_newStart_14 (by decide) ?_
  rw [← hQe]
  exact W.iret hx_ hb_ hr (fun tt1 htt1 hWW1 => ⟨_, rfl, congrArg iI (by first | rfl | omega), htt1⟩) (fun q_ h_ => absurd h_ List.not_mem_nil) dX1_newStart_18

set_option maxHeartbeats 4000000 in
set_option maxRecDepth 100000 in
/-- Blocks.length -/
theorem c_X1_length (l_ : Launch) (G_ : va_G) (cI cZ : ClassId) (h_ a_ b_ d_ : Nat) (k_ : Nat) (os_ ns_ ln_ : Nat → Nat) (j_ : Nat) (hk_ : k_ ≤ 48) (hj_ : j_ < k_) : Ro l_ yX1_length wsX1_length ({ frames := 1, cells := 0, slots := 0, locals := 21 }) G_ cI cZ [.ref h_, .int (iI ((j_ : Nat) : Int))] (wBl cI h_ a_ b_ d_ k_ os_ ns_ ln_) ((ln_ j_ : Nat) : Int) := by
  refine Met.ofW (cc := cX1_length) (maxL := 2) (ret := (some .int)) (by decide) rfl ?_
  intro p_ e_ s_ m_ args below meth c_ s₁ B hml hv
  obtain ⟨hargs, hP_, hK_⟩ := hv
  have hx_ := B.exec
  have hb_ := B.bytes
  have hr := B.returns
  have hts := atoms_spec (ws := wsX1_length) B.pre
  have hown : s_.vm.findClass RX1 = some m_.cls := findClass_of_methodNamed B.named
  have hlocks := B.notSynchronized
  have hi1_ : ∀ w_ ∈ wsX10, w_ ∈ wsX1_length := by decide +kernel
  have hf18_ := hts (.fieldLink RX1 18 "RelocatingPatch$Blocks" "lengths" "[I") (by decide +kernel)
  have hP_ : va_P G_ vwCl [(h_, .inr (1, [.ref a_, .ref b_, .ref d_, .int (iI ((k_ : Nat) : Int))])), (a_, .inl (cI, 48, .inl (aN os_))), (b_, .inl (cI, 48, .inl (aN ns_))), (d_, .inl (cI, 48, .inl (aN ln_)))] s_.heap := hP_
  generalize hQe : MQ below (vp_Si (fun r_ => r_ = iI ((ln_ j_ : Nat) : Int))) args s_ 0 0 (fun _ => False) = Q_
  rw [show entryFrame m_ args 2 = entryFrame m_ ([.ref h_, .int (iI ((j_ : Nat) : Int))] : List Value).toArray 2 from by rw [hargs], lg_entry_eq]
  have hl_ := lv_entry ([.ref h_, .int (iI ((j_ : Nat) : Int))]) (n := 2) (Nat.le_of_ble_eq_true rfl)
  generalize (lg_sl ([.ref h_, .int (iI ((j_ : Nat) : Int))]) ++ List.replicate (2 - (lg_sl ([.ref h_, .int (iI ((j_ : Nat) : Int))])).length) Slot.unset).toArray = ls_ at hl_ ⊢
  have hl_ : lv_has ls_ 2 [(0, .ref h_), (1, .int (iI ((j_ : Nat) : Int)))] := hl_
  refine lv_aload_n hx_ hb_ dX1_length_0 rfl (lv_at hl_ 0 rfl) ?_
  refine lv_iload_n hx_ hb_ dX1_length_1 rfl (lv_at hl_ 1 rfl) ?_
  refine ro_V (As := [.int (iI ((j_ : Nat) : Int))]) (rest := []) ⟨hx_, hb_, hml, hown, hts⟩ (c_X1_has l_ G_ cI cZ h_ a_ b_ d_ k_ os_ ns_ ln_ ((j_ : Nat) : Int) (by omega) (by omega) (by omega)) (cwV 1 hts gX1_length_X1_has rfl rfl rfl (by decide +kernel) ⟨Nat.le_of_ble_eq_true rfl, Nat.le_of_ble_eq_true rfl⟩) (hP_.sub (ws' := [(h_, .inr (1, [.ref a_, .ref b_, .ref d_, .int (iI ((k_ : Nat) : Int))])), (a_, .inl (cI, 48, .inl (aN os_))), (b_, .inl (cI, 48, .inl (aN ns_))), (d_, .inl (cI, 48, .inl (aN ln_)))]) [0, 1, 2, 3] rfl) hK_ 0 rfl rfl rfl hl_.1 rfl (Nat.le_of_ble_eq_true rfl) dX1_length_2 ⟨Nat.zero_le _, Nat.zero_le _⟩ ?_
  refine q_df (tgt := 17) hx_ hb_ dX1_length_5 (by decide) (fun c5_ => absurd c5_ (by omega)) (fun c5_ => ?_)
  refine lv_aload_n hx_ hb_ dX1_length_8 rfl (lv_at hl_ 0 rfl) ?_
  refine va_get (D := G_) (ci := 1) (v := .ref d_) (C := RX1) (T := TX1) (N := 4) hx_ hb_ hts hi1_ hown hK_ hP_ 0 rfl rfl 2 (by decide) hf18_ (fun _ h9 => h9) rfl dX1_length_9 ?_
  refine lv_iload_n hx_ hb_ dX1_length_12 rfl (lv_at hl_ 1 rfl) ?_
  refine q_ildN hx_ hb_ hK_ hP_ 3 rfl (by decide) (j_) (by omega) (ln_ j_) (rfl) dX1_length_13 ?_
  refine lv_goto (tgt := 18) hx_ hb_ dX1_length_14 (by decide) ?_
  rw [← hQe]
  exact W.iret hx_ hb_ hr (fun tt1 htt1 hWW1 => ⟨_, rfl, congrArg iI (by first | rfl | omega), htt1⟩) (fun q_ h_ => absurd h_ List.not_mem_nil) dX1_length_18

set_option maxHeartbeats 4000000 in
set_option maxRecDepth 100000 in
/-- Blocks.oldIndex -/
theorem c_X1_oldIndex (l_ : Launch) (G_ : va_G) (cI cZ : ClassId) (h_ a_ b_ d_ : Nat) (k_ : Nat) (os_ ns_ ln_ : Nat → Nat) (j_ : Nat) (x_ : Int) (hk_ : k_ ≤ 48) (hj_ : j_ < k_) : Ro l_ yX1_oldIndex wsX1_oldIndex ({ frames := 2, cells := 0, slots := 0, locals := 42 }) G_ cI cZ [.ref h_, .int (iI ((j_ : Nat) : Int)), .int (iI (x_))] (wBl cI h_ a_ b_ d_ k_ os_ ns_ ln_) (x_ - ((ns_ j_ : Nat) : Int) + ((os_ j_ : Nat) : Int)) := by
  refine Met.ofW (cc := cX1_oldIndex) (maxL := 3) (ret := (some .int)) (by decide) rfl ?_
  intro p_ e_ s_ m_ args below meth c_ s₁ B hml hv
  obtain ⟨hargs, hP_, hK_⟩ := hv
  have hx_ := B.exec
  have hb_ := B.bytes
  have hr := B.returns
  have hts := atoms_spec (ws := wsX1_oldIndex) B.pre
  have hown : s_.vm.findClass RX1 = some m_.cls := findClass_of_methodNamed B.named
  have hlocks := B.notSynchronized
  have hP_ : va_P G_ vwCl [(h_, .inr (1, [.ref a_, .ref b_, .ref d_, .int (iI ((k_ : Nat) : Int))])), (a_, .inl (cI, 48, .inl (aN os_))), (b_, .inl (cI, 48, .inl (aN ns_))), (d_, .inl (cI, 48, .inl (aN ln_)))] s_.heap := hP_
  generalize hQe : MQ below (vp_Si (fun r_ => r_ = iI (x_ - ((ns_ j_ : Nat) : Int) + ((os_ j_ : Nat) : Int)))) args s_ 0 0 (fun _ => False) = Q_
  rw [show entryFrame m_ args 3 = entryFrame m_ ([.ref h_, .int (iI ((j_ : Nat) : Int)), .int (iI (x_))] : List Value).toArray 3 from by rw [hargs], lg_entry_eq]
  have hl_ := lv_entry ([.ref h_, .int (iI ((j_ : Nat) : Int)), .int (iI (x_))]) (n := 3) (Nat.le_of_ble_eq_true rfl)
  generalize (lg_sl ([.ref h_, .int (iI ((j_ : Nat) : Int)), .int (iI (x_))]) ++ List.replicate (3 - (lg_sl ([.ref h_, .int (iI ((j_ : Nat) : Int)), .int (iI (x_))])).length) Slot.unset).toArray = ls_ at hl_ ⊢
  have hl_ : lv_has ls_ 3 [(0, .ref h_), (1, .int (iI ((j_ : Nat) : Int))), (2, .int (iI (x_)))] := hl_
  refine lv_iload_n hx_ hb_ dX1_oldIndex_0 rfl (lv_at hl_ 2 rfl) ?_
  refine lv_aload_n hx_ hb_ dX1_oldIndex_1 rfl (lv_at hl_ 0 rfl) ?_
  refine lv_iload_n hx_ hb_ dX1_oldIndex_2 rfl (lv_at hl_ 1 rfl) ?_
  refine ro_V (As := [.int (iI ((j_ : Nat) : Int))]) (rest := [.int (iI (x_))]) ⟨hx_, hb_, hml, hown, hts⟩ (c_X1_newStart l_ G_ cI cZ h_ a_ b_ d_ k_ os_ ns_ ln_ j_ (by omega) (by omega)) (cwV 1 hts gX1_oldIndex_X1_newStart rfl rfl rfl (by decide +kernel) ⟨Nat.le_of_ble_eq_true rfl, Nat.le_of_ble_eq_true rfl⟩) (hP_.sub (ws' := [(h_, .inr (1, [.ref a_, .ref b_, .ref d_, .int (iI ((k_ : Nat) : Int))])), (a_, .inl (cI, 48, .inl (aN os_))), (b_, .inl (cI, 48, .inl (aN ns_))), (d_, .inl (cI, 48, .inl (aN ln_)))]) [0, 1, 2, 3] rfl) hK_ 0 rfl rfl rfl hl_.1 rfl (Nat.le_of_ble_eq_true rfl) dX1_oldIndex_3 ⟨Nat.zero_le _, Nat.zero_le _⟩ ?_
  refine q_isub hx_ hb_ dX1_oldIndex_6 ?_
  refine lv_aload_n hx_ hb_ dX1_oldIndex_7 rfl (lv_at hl_ 0 rfl) ?_
  refine lv_iload_n hx_ hb_ dX1_oldIndex_8 rfl (lv_at hl_ 1 rfl) ?_
  refine ro_V (As := [.int (iI ((j_ : Nat) : Int))]) (rest := [.int (iI ((x_) - ((ns_ j_ : Nat) : Int)))]) ⟨hx_, hb_, hml, hown, hts⟩ (c_X1_oldStart l_ G_ cI cZ h_ a_ b_ d_ k_ os_ ns_ ln_ j_ (by omega) (by omega)) (cwV 1 hts gX1_oldIndex_X1_oldStart rfl rfl rfl (by decide +kernel) ⟨Nat.le_of_ble_eq_true rfl, Nat.le_of_ble_eq_true rfl⟩) (hP_.sub (ws' := [(h_, .inr (1, [.ref a_, .ref b_, .ref d_, .int (iI ((k_ : Nat) : Int))])), (a_, .inl (cI, 48, .inl (aN os_))), (b_, .inl (cI, 48, .inl (aN ns_))), (d_, .inl (cI, 48, .inl (aN ln_)))]) [0, 1, 2, 3] rfl) hK_ 0 rfl rfl rfl hl_.1 rfl (Nat.le_of_ble_eq_true rfl) dX1_oldIndex_9 ⟨Nat.zero_le _, Nat.zero_le _⟩ ?_
  refine q_iadd hx_ hb_ dX1_oldIndex_12 ?_
  rw [← hQe]
  exact W.iret hx_ hb_ hr (fun tt1 htt1 hWW1 => ⟨_, rfl, congrArg iI (by first | rfl | omega), htt1⟩) (fun q_ h_ => absurd h_ List.not_mem_nil) dX1_oldIndex_13

set_option maxHeartbeats 4000000 in
set_option maxRecDepth 100000 in
/-- Blocks.covers -/
theorem c_X1_covers (l_ : Launch) (G_ : va_G) (cI cZ : ClassId) (h_ a_ b_ d_ : Nat) (k_ : Nat) (os_ ns_ ln_ : Nat → Nat) (j_ : Nat) (x_ : Int) (hk_ : k_ ≤ 48) (hj_ : j_ < k_) (hB_ : B48 k_ os_ ns_ ln_) (hx1 : -2147483648 ≤ x_) (hx2 : x_ < 2147483648) : Ro l_ yX1_covers wsX1_covers ({ frames := 2, cells := 0, slots := 0, locals := 42 }) G_ cI cZ [.ref h_, .int (iI ((j_ : Nat) : Int)), .int (iI (x_))] (wBl cI h_ a_ b_ d_ k_ os_ ns_ ln_) (bZ (cv ns_ ln_ x_ j_)) := by
  refine Met.ofW (cc := cX1_covers) (maxL := 4) (ret := (some .boolean)) (by decide) rfl ?_
  intro p_ e_ s_ m_ args below meth c_ s₁ B hml hv
  obtain ⟨hargs, hP_, hK_⟩ := hv
  have hx_ := B.exec
  have hb_ := B.bytes
  have hr := B.returns
  have hts := atoms_spec (ws := wsX1_covers) B.pre
  have hown : s_.vm.findClass RX1 = some m_.cls := findClass_of_methodNamed B.named
  have hlocks := B.notSynchronized
  have hP_ : va_P G_ vwCl [(h_, .inr (1, [.ref a_, .ref b_, .ref d_, .int (iI ((k_ : Nat) : Int))])), (a_, .inl (cI, 48, .inl (aN os_))), (b_, .inl (cI, 48, .inl (aN ns_))), (d_, .inl (cI, 48, .inl (aN ln_)))] s_.heap := hP_
  generalize hQe : MQ below (vp_Si (fun r_ => r_ = iI (bZ (cv ns_ ln_ x_ j_)))) args s_ 0 0 (fun _ => False) = Q_
  have fb1 := hB_ j_ hj_
  rw [show entryFrame m_ args 4 = entryFrame m_ ([.ref h_, .int (iI ((j_ : Nat) : Int)), .int (iI (x_))] : List Value).toArray 4 from by rw [hargs], lg_entry_eq]
  have hl_ := lv_entry ([.ref h_, .int (iI ((j_ : Nat) : Int)), .int (iI (x_))]) (n := 4) (Nat.le_of_ble_eq_true rfl)
  generalize (lg_sl ([.ref h_, .int (iI ((j_ : Nat) : Int)), .int (iI (x_))]) ++ List.replicate (4 - (lg_sl ([.ref h_, .int (iI ((j_ : Nat) : Int)), .int (iI (x_))])).length) Slot.unset).toArray = ls_ at hl_ ⊢
  have hl_ : lv_has ls_ 4 [(0, .ref h_), (1, .int (iI ((j_ : Nat) : Int))), (2, .int (iI (x_)))] := hl_
  refine lv_aload_n hx_ hb_ dX1_covers_0 rfl (lv_at hl_ 0 rfl) ?_
  refine lv_iload_n hx_ hb_ dX1_covers_1 rfl (lv_at hl_ 1 rfl) ?_
  refine ro_V (As := [.int (iI ((j_ : Nat) : Int))]) (rest := []) ⟨hx_, hb_, hml, hown, hts⟩ (c_X1_newStart l_ G_ cI cZ h_ a_ b_ d_ k_ os_ ns_ ln_ j_ (by omega) (by omega)) (cwV 1 hts gX1_covers_X1_newStart rfl rfl rfl (by decide +kernel) ⟨Nat.le_of_ble_eq_true rfl, Nat.le_of_ble_eq_true rfl⟩) (hP_.sub (ws' := [(h_, .inr (1, [.ref a_, .ref b_, .ref d_, .int (iI ((k_ : Nat) : Int))])), (a_, .inl (cI, 48, .inl (aN os_))), (b_, .inl (cI, 48, .inl (aN ns_))), (d_, .inl (cI, 48, .inl (aN ln_)))]) [0, 1, 2, 3] rfl) hK_ 0 rfl rfl rfl hl_.1 rfl (Nat.le_of_ble_eq_true rfl) dX1_covers_2 ⟨Nat.zero_le _, Nat.zero_le _⟩ ?_
  refine lv_istore_n (lv' := [(3, .int (iI ((ns_ j_ : Nat) : Int))), (0, .ref h_), (1, .int (iI ((j_ : Nat) : Int))), (2, .int (iI (x_)))]) hx_ hb_ dX1_covers_5 rfl hl_ (by decide) rfl (fun ls_ hl_ => ?_)
  refine lv_iload_n hx_ hb_ dX1_covers_6 rfl (lv_at hl_ 3 rfl) ?_
  refine lv_iload_n hx_ hb_ dX1_covers_7 rfl (lv_at hl_ 0 rfl) ?_
  refine q_icmp_lt (tgt := 26) hx_ hb_ dX1_covers_8 (by decide) (⟨by omega, by omega⟩) (⟨by omega, by omega⟩) (fun c8_ => ?_) (fun c8_ => ?_)
  · skip
    refine lv_iconst (v := iI ((0 : Nat) : Int)) hx_ hb_ dX1_covers_26 rfl ?_
    rw [← hQe]
    refine q_cast (b := bZ false) rfl ?_
    exact W.zret (v := _) hx_ hb_ hr (nar_bZ _) (fun tt1 htt1 hWW1 => ⟨_, rfl, congrArg iI (congrArg bZ ((decide_eq_false (by omega)).symm)), htt1⟩) (fun q_ h_ => absurd h_ List.not_mem_nil) dX1_covers_27
  · skip
    refine lv_iload_n hx_ hb_ dX1_covers_11 rfl (lv_at hl_ 3 rfl) ?_
    refine lv_iload_n hx_ hb_ dX1_covers_12 rfl (lv_at hl_ 0 rfl) ?_
    refine lv_aload_n hx_ hb_ dX1_covers_13 rfl (lv_at hl_ 1 rfl) ?_
    refine lv_iload_n hx_ hb_ dX1_covers_14 rfl (lv_at hl_ 2 rfl) ?_
    refine ro_V (As := [.int (iI ((j_ : Nat) : Int))]) (rest := [.int (iI ((ns_ j_ : Nat) : Int)), .int (iI (x_))]) ⟨hx_, hb_, hml, hown, hts⟩ (c_X1_length l_ G_ cI cZ h_ a_ b_ d_ k_ os_ ns_ ln_ j_ (by omega) (by omega)) (cwV 1 hts gX1_covers_X1_length rfl rfl rfl (by decide +kernel) ⟨Nat.le_of_ble_eq_true rfl, Nat.le_of_ble_eq_true rfl⟩) (hP_.sub (ws' := [(h_, .inr (1, [.ref a_, .ref b_, .ref d_, .int (iI ((k_ : Nat) : Int))])), (a_, .inl (cI, 48, .inl (aN os_))), (b_, .inl (cI, 48, .inl (aN ns_))), (d_, .inl (cI, 48, .inl (aN ln_)))]) [0, 1, 2, 3] rfl) hK_ 0 rfl rfl rfl hl_.1 rfl (Nat.le_of_ble_eq_true rfl) dX1_covers_15 ⟨Nat.zero_le _, Nat.zero_le _⟩ ?_
    refine q_iaddN hx_ hb_ dX1_covers_18 ?_
    refine q_icmp_ge (tgt := 26) hx_ hb_ dX1_covers_19 (by decide) (⟨by omega, by omega⟩) (⟨by omega, by omega⟩) (fun c19_ => ?_) (fun c19_ => ?_)
    · skip
      refine lv_iconst (v := iI ((0 : Nat) : Int)) hx_ hb_ dX1_covers_26 rfl ?_
      rw [← hQe]
      refine q_cast (b := bZ false) rfl ?_
      exact W.zret (v := _) hx_ hb_ hr (nar_bZ _) (fun tt1 htt1 hWW1 => ⟨_, rfl, congrArg iI (congrArg bZ ((decide_eq_false (by omega)).symm)), htt1⟩) (fun q_ h_ => absurd h_ List.not_mem_nil) dX1_covers_27
    · skip
      refine lv_iconst (v := iI ((1 : Nat) : Int)) hx_ hb_ dX1_covers_22 rfl ?_
      refine lv_goto (tgt := 27) hx_ hb_ dX1_covers_23 (by decide) ?_
      rw [← hQe]
      refine q_cast (b := bZ true) rfl ?_
      exact W.zret (v := _) hx_ hb_ hr (nar_bZ _) (fun tt1 htt1 hWW1 => ⟨_, rfl, congrArg iI (congrArg bZ ((decide_eq_true (by omega)).symm)), htt1⟩) (fun q_ h_ => absurd h_ List.not_mem_nil) dX1_covers_27

set_option maxHeartbeats 4000000 in
set_option maxRecDepth 100000 in
/-- Blocks.withNewIndex -/
theorem c_X1_withNewIndex (l_ : Launch) (G_ : va_G) (cI cZ : ClassId) (h_ a_ b_ d_ : Nat) (k_ : Nat) (os_ ns_ ln_ : Nat → Nat) (x_ : Int) (hk_ : k_ ≤ 48) (hB_ : B48 k_ os_ ns_ ln_) (hx1 : -2147483648 ≤ x_) (hx2 : x_ < 2147483648) : Ro l_ yX1_withNewIndex wsX1_withNewIndex ({ frames := 3, cells := 0, slots := 0, locals := 65 }) G_ cI cZ [.ref h_, .int (iI (x_))] (wBl cI h_ a_ b_ d_ k_ os_ ns_ ln_) (wI (wni k_ ns_ ln_ x_) k_ (-1)) := by
  refine Met.ofW (cc := cX1_withNewIndex) (maxL := 3) (ret := (some .int)) (by decide) rfl ?_
  intro p_ e_ s_ m_ args below meth c_ s₁ B hml hv
  obtain ⟨hargs, hP_, hK_⟩ := hv
  have hx_ := B.exec
  have hb_ := B.bytes
  have hr := B.returns
  have hts := atoms_spec (ws := wsX1_withNewIndex) B.pre
  have hown : s_.vm.findClass RX1 = some m_.cls := findClass_of_methodNamed B.named
  have hlocks := B.notSynchronized
  have hi1_ : ∀ w_ ∈ wsX10, w_ ∈ wsX1_withNewIndex := by decide +kernel
  have hf21_ := hts (.fieldLink RX1 21 "RelocatingPatch$Blocks" "size" "I") (by decide +kernel)
  have hP_ : va_P G_ vwCl [(h_, .inr (1, [.ref a_, .ref b_, .ref d_, .int (iI ((k_ : Nat) : Int))])), (a_, .inl (cI, 48, .inl (aN os_))), (b_, .inl (cI, 48, .inl (aN ns_))), (d_, .inl (cI, 48, .inl (aN ln_)))] s_.heap := hP_
  generalize hQe : MQ below (vp_Si (fun r_ => r_ = iI (wI (wni k_ ns_ ln_ x_) k_ (-1)))) args s_ 0 0 (fun _ => False) = Q_
  have lp2 : ∀ (n_ : Nat) (i_ : Nat) (ls_ : Array Slot), (i_ ≤ k_) → (k_ + 1 ≤ i_ + n_) → (∀ j_, j_ < i_ → cv ns_ ln_ x_ j_ = false) → lv_has ls_ 3 [(0, .ref h_), (1, .int (iI (x_))), (2, .int (iI ((i_ : Nat) : Int)))] → W p_ l_ e_ (headSpec wsX1_withNewIndex ({ frames := 3, cells := 0, slots := 0, locals := 65 })).room s_ m_ args below meth c_ s_.heap [] 0 0 Q_ (F0 m_ 2 ls_ []) := by
    intro n_
    induction n_ with
    | zero =>
      intro i_ ls_ hi_ hn_ hno
      exact False.elim (by omega)
    | succ n_ ih_ =>
      intro i_ ls_ hi_ hn_ hno hl_
      refine lv_iload_n hx_ hb_ dX1_withNewIndex_2 rfl (lv_at hl_ 2 rfl) ?_
      refine lv_aload_n hx_ hb_ dX1_withNewIndex_3 rfl (lv_at hl_ 0 rfl) ?_
      refine va_get (D := G_) (ci := 1) (v := .int (iI ((k_ : Nat) : Int))) (C := RX1) (T := TX1) (N := 4) hx_ hb_ hts hi1_ hown hK_ hP_ 0 rfl rfl 3 (by decide) hf21_ (fun _ h9 => h9) rfl dX1_withNewIndex_4 ?_
      refine q_icmp_ge (tgt := 27) hx_ hb_ dX1_withNewIndex_7 (by decide) (⟨by omega, by omega⟩) (⟨by omega, by omega⟩) (fun c7_ => ?_) (fun c7_ => ?_)
      · skip
        refine lv_iconst (v := iI (-1)) hx_ hb_ dX1_withNewIndex_27 rfl ?_
        rw [← hQe]
        exact W.iret hx_ hb_ hr (fun tt1 htt1 hWW1 => ⟨_, rfl, congrArg iI (fst_wI (Or.inl ⟨rfl, fun j_ hj_ => hno j_ (by omega)⟩)), htt1⟩) (fun q_ h_ => absurd h_ List.not_mem_nil) dX1_withNewIndex_28
      · skip
        refine lv_aload_n hx_ hb_ dX1_withNewIndex_10 rfl (lv_at hl_ 0 rfl) ?_
        refine lv_iload_n hx_ hb_ dX1_withNewIndex_11 rfl (lv_at hl_ 2 rfl) ?_
        refine lv_iload_n hx_ hb_ dX1_withNewIndex_12 rfl (lv_at hl_ 1 rfl) ?_
        refine ro_V (As := [.int (iI ((i_ : Nat) : Int)), .int (iI (x_))]) (rest := []) ⟨hx_, hb_, hml, hown, hts⟩ (c_X1_covers l_ G_ cI cZ h_ a_ b_ d_ k_ os_ ns_ ln_ i_ (x_) (by omega) (by omega) (hB_) (by omega) (by omega)) (cwV 2 hts gX1_withNewIndex_X1_covers rfl rfl rfl (by decide +kernel) ⟨Nat.le_of_ble_eq_true rfl, Nat.le_of_ble_eq_true rfl⟩) (hP_.sub (ws' := [(h_, .inr (1, [.ref a_, .ref b_, .ref d_, .int (iI ((k_ : Nat) : Int))])), (a_, .inl (cI, 48, .inl (aN os_))), (b_, .inl (cI, 48, .inl (aN ns_))), (d_, .inl (cI, 48, .inl (aN ln_)))]) [0, 1, 2, 3] rfl) hK_ 0 rfl rfl rfl hl_.1 rfl (Nat.le_of_ble_eq_true rfl) dX1_withNewIndex_13 ⟨Nat.zero_le _, Nat.zero_le _⟩ ?_
        refine q_bf (tgt := 21) hx_ hb_ dX1_withNewIndex_16 (by decide) (fun c16_ => ?_) (fun c16_ => ?_)
        · skip
          refine q_iinc (k := 2) ((i_ + 1 : Nat) : Int) hx_ hb_ dX1_withNewIndex_21 hl_ rfl (rfl) (by decide) (lv' := [(2, .int (iI ((i_ + 1 : Nat) : Int))), (0, .ref h_), (1, .int (iI (x_)))]) rfl (fun ls_ hl_ => ?_)
          refine lv_goto (tgt := 2) hx_ hb_ dX1_withNewIndex_24 (by decide) ?_
          exact ih_ (i_ + 1) ls_ (by omega) (by omega) (lt_s hno c16_) (lv_sub hl_ [1, 2, 0] rfl)
        · skip
          refine lv_iload_n hx_ hb_ dX1_withNewIndex_19 rfl (lv_at hl_ 2 rfl) ?_
          rw [← hQe]
          exact W.iret hx_ hb_ hr (fun tt1 htt1 hWW1 => ⟨_, rfl, congrArg iI (fst_wI (Or.inr ⟨i_, by omega, c16_, hno, rfl⟩)), htt1⟩) (fun q_ h_ => absurd h_ List.not_mem_nil) dX1_withNewIndex_20
  rw [show entryFrame m_ args 3 = entryFrame m_ ([.ref h_, .int (iI (x_))] : List Value).toArray 3 from by rw [hargs], lg_entry_eq]
  have hl_ := lv_entry ([.ref h_, .int (iI (x_))]) (n := 3) (Nat.le_of_ble_eq_true rfl)
  generalize (lg_sl ([.ref h_, .int (iI (x_))]) ++ List.replicate (3 - (lg_sl ([.ref h_, .int (iI (x_))])).length) Slot.unset).toArray = ls_ at hl_ ⊢
  have hl_ : lv_has ls_ 3 [(0, .ref h_), (1, .int (iI (x_)))] := hl_
  refine lv_iconst (v := iI ((0 : Nat) : Int)) hx_ hb_ dX1_withNewIndex_0 rfl ?_
  refine lv_istore_n (lv' := [(2, .int (iI ((0 : Nat) : Int))), (0, .ref h_), (1, .int (iI (x_)))]) hx_ hb_ dX1_withNewIndex_1 rfl hl_ (by decide) rfl (fun ls_ hl_ => ?_)
  exact lp2 (k_ + 1) 0 ls_ (by omega) (by omega) (fun j_ hj_ => absurd hj_ (Nat.not_lt_zero _)) (lv_sub hl_ [1, 2, 0] rfl)

set_option maxHeartbeats 4000000 in
set_option maxRecDepth 100000 in
/-- Blocks.moved -/
theorem c_X1_moved (l_ : Launch) (G_ : va_G) (cI cZ : ClassId) (h_ a_ b_ d_ : Nat) (k_ : Nat) (os_ ns_ ln_ : Nat → Nat) (x_ : Int) (hk_ : k_ ≤ 48) (hB_ : B48 k_ os_ ns_ ln_) (hx1 : -2147483648 ≤ x_) (hx2 : x_ < 2147483648) : Ro l_ yX1_moved wsX1_moved ({ frames := 2, cells := 0, slots := 0, locals := 42 }) G_ cI cZ [.ref h_, .int (iI (x_))] (wBl cI h_ a_ b_ d_ k_ os_ ns_ ln_) (mv k_ os_ ns_ x_) := by
  refine Met.ofW (cc := cX1_moved) (maxL := 5) (ret := (some .int)) (by decide) rfl ?_
  intro p_ e_ s_ m_ args below meth c_ s₁ B hml hv
  obtain ⟨hargs, hP_, hK_⟩ := hv
  have hx_ := B.exec
  have hb_ := B.bytes
  have hr := B.returns
  have hts := atoms_spec (ws := wsX1_moved) B.pre
  have hown : s_.vm.findClass RX1 = some m_.cls := findClass_of_methodNamed B.named
  have hlocks := B.notSynchronized
  have hi1_ : ∀ w_ ∈ wsX10, w_ ∈ wsX1_moved := by decide +kernel
  have hf21_ := hts (.fieldLink RX1 21 "RelocatingPatch$Blocks" "size" "I") (by decide +kernel)
  have hP_ : va_P G_ vwCl [(h_, .inr (1, [.ref a_, .ref b_, .ref d_, .int (iI ((k_ : Nat) : Int))])), (a_, .inl (cI, 48, .inl (aN os_))), (b_, .inl (cI, 48, .inl (aN ns_))), (d_, .inl (cI, 48, .inl (aN ln_)))] s_.heap := hP_
  generalize hQe : MQ below (vp_Si (fun r_ => r_ = iI (mv k_ os_ ns_ x_))) args s_ 0 0 (fun _ => False) = Q_
  have lp4 : ∀ (n_ : Nat) (i_ : Nat) (gz : Int) (ls_ : Array Slot), (i_ ≤ k_) → (k_ + 1 ≤ i_ + n_) → (gz = oV (-1) (gde os_ x_ i_)) → lv_has ls_ 5 [(0, .ref h_), (1, .int (iI (x_))), (2, .int (iI (gz))), (3, .int (iI ((i_ : Nat) : Int)))] → W p_ l_ e_ (headSpec wsX1_moved ({ frames := 2, cells := 0, slots := 0, locals := 42 })).room s_ m_ args below meth c_ s_.heap [] 0 0 Q_ (F0 m_ 4 ls_ []) := by
    intro n_
    induction n_ with
    | zero =>
      intro i_ gz ls_ hi_ hn_ hg_
      exact False.elim (by omega)
    | succ n_ ih_ =>
      intro i_ gz ls_ hi_ hn_ hg_ hl_
      have hgr : -1 ≤ gz ∧ gz < 49 := by rw [hg_]; cases h_ : gde os_ x_ i_ with | none => exact ⟨by decide, by decide⟩ | some g_ => exact ⟨by show (-1 : Int) ≤ (g_ : Int); omega, by have := (bst_lt h_).1; show (g_ : Int) < 49; omega⟩
      refine lv_iload_n hx_ hb_ dX1_moved_4 rfl (lv_at hl_ 3 rfl) ?_
      refine lv_aload_n hx_ hb_ dX1_moved_5 rfl (lv_at hl_ 0 rfl) ?_
      refine va_get (D := G_) (ci := 1) (v := .int (iI ((k_ : Nat) : Int))) (C := RX1) (T := TX1) (N := 4) hx_ hb_ hts hi1_ hown hK_ hP_ 0 rfl rfl 3 (by decide) hf21_ (fun _ h9 => h9) rfl dX1_moved_6 ?_
      refine q_icmp_ge (tgt := 48) hx_ hb_ dX1_moved_9 (by decide) (⟨by omega, by omega⟩) (⟨by omega, by omega⟩) (fun c9_ => ?_) (fun c9_ => ?_)
      · skip
        have hik : i_ = k_ := by omega
        rw [hik] at hg_
        refine lv_iload_n hx_ hb_ dX1_moved_48 rfl (lv_at hl_ 2 rfl) ?_
        refine lv_iconst (v := iI (-1)) hx_ hb_ dX1_moved_49 rfl ?_
        refine q_icmp_ne (tgt := 57) hx_ hb_ dX1_moved_50 (by decide) (⟨by omega, by omega⟩) (⟨by decide, by decide⟩) (fun c50_ => ?_) (fun c50_ => ?_)
        · skip
          obtain ⟨g_, hgs, hgz⟩ : ∃ g_, gde os_ x_ k_ = some g_ ∧ gz = (g_ : Int) := by rw [hg_] at c50_; obtain ⟨g_, h1_, h2_⟩ := oV_some c50_; exact ⟨g_, h1_, by rw [hg_, h2_]⟩
          have hgl := (bst_lt hgs).1
          subst hgz
          refine lv_iload_n hx_ hb_ dX1_moved_57 rfl (lv_at hl_ 1 rfl) ?_
          refine lv_aload_n hx_ hb_ dX1_moved_58 rfl (lv_at hl_ 0 rfl) ?_
          refine lv_iload_n hx_ hb_ dX1_moved_59 rfl (lv_at hl_ 2 rfl) ?_
          refine ro_V (As := [.int (iI ((g_ : Nat) : Int))]) (rest := [.int (iI (x_))]) ⟨hx_, hb_, hml, hown, hts⟩ (c_X1_newStart l_ G_ cI cZ h_ a_ b_ d_ k_ os_ ns_ ln_ g_ (by omega) (by omega)) (cwV 1 hts gX1_moved_X1_newStart rfl rfl rfl (by decide +kernel) ⟨Nat.le_of_ble_eq_true rfl, Nat.le_of_ble_eq_true rfl⟩) (hP_.sub (ws' := [(h_, .inr (1, [.ref a_, .ref b_, .ref d_, .int (iI ((k_ : Nat) : Int))])), (a_, .inl (cI, 48, .inl (aN os_))), (b_, .inl (cI, 48, .inl (aN ns_))), (d_, .inl (cI, 48, .inl (aN ln_)))]) [0, 1, 2, 3] rfl) hK_ 0 rfl rfl rfl hl_.1 rfl (Nat.le_of_ble_eq_true rfl) dX1_moved_60 ⟨Nat.zero_le _, Nat.zero_le _⟩ ?_
          refine q_iadd hx_ hb_ dX1_moved_63 ?_
          refine lv_aload_n hx_ hb_ dX1_moved_64 rfl (lv_at hl_ 0 rfl) ?_
          refine lv_iload_n hx_ hb_ dX1_moved_65 rfl (lv_at hl_ 2 rfl) ?_
          refine ro_V (As := [.int (iI ((g_ : Nat) : Int))]) (rest := [.int (iI ((x_) + ((ns_ g_ : Nat) : Int)))]) ⟨hx_, hb_, hml, hown, hts⟩ (c_X1_oldStart l_ G_ cI cZ h_ a_ b_ d_ k_ os_ ns_ ln_ g_ (by omega) (by omega)) (cwV 1 hts gX1_moved_X1_oldStart rfl rfl rfl (by decide +kernel) ⟨Nat.le_of_ble_eq_true rfl, Nat.le_of_ble_eq_true rfl⟩) (hP_.sub (ws' := [(h_, .inr (1, [.ref a_, .ref b_, .ref d_, .int (iI ((k_ : Nat) : Int))])), (a_, .inl (cI, 48, .inl (aN os_))), (b_, .inl (cI, 48, .inl (aN ns_))), (d_, .inl (cI, 48, .inl (aN ln_)))]) [0, 1, 2, 3] rfl) hK_ 0 rfl rfl rfl hl_.1 rfl (Nat.le_of_ble_eq_true rfl) dX1_moved_66 ⟨Nat.zero_le _, Nat.zero_le _⟩ ?_
          refine q_isub hx_ hb_ dX1_moved_69 ?_
          rw [← hQe]
          exact W.iret hx_ hb_ hr (fun tt1 htt1 hWW1 => ⟨_, rfl, congrArg iI (by unfold mv; rw [hgs]), htt1⟩) (fun q_ h_ => absurd h_ List.not_mem_nil) dX1_moved_70
        · skip
          refine lv_iload_n hx_ hb_ dX1_moved_53 rfl (lv_at hl_ 1 rfl) ?_
          refine lv_goto (tgt := 70) hx_ hb_ dX1_moved_54 (by decide) ?_
          rw [← hQe]
          exact W.iret hx_ hb_ hr (fun tt1 htt1 hWW1 => ⟨_, rfl, congrArg iI (by unfold mv; rw [oV_none (by decide) (hg_.symm.trans c50_)]), htt1⟩) (fun q_ h_ => absurd h_ List.not_mem_nil) dX1_moved_70
      · skip
        have fb1 := hB_ i_ (by omega)
        refine lv_aload_n hx_ hb_ dX1_moved_12 rfl (lv_at hl_ 0 rfl) ?_
        refine lv_iload_n hx_ hb_ dX1_moved_13 rfl (lv_at hl_ 3 rfl) ?_
        refine ro_V (As := [.int (iI ((i_ : Nat) : Int))]) (rest := []) ⟨hx_, hb_, hml, hown, hts⟩ (c_X1_oldStart l_ G_ cI cZ h_ a_ b_ d_ k_ os_ ns_ ln_ i_ (by omega) (by omega)) (cwV 1 hts gX1_moved_X1_oldStart rfl rfl rfl (by decide +kernel) ⟨Nat.le_of_ble_eq_true rfl, Nat.le_of_ble_eq_true rfl⟩) (hP_.sub (ws' := [(h_, .inr (1, [.ref a_, .ref b_, .ref d_, .int (iI ((k_ : Nat) : Int))])), (a_, .inl (cI, 48, .inl (aN os_))), (b_, .inl (cI, 48, .inl (aN ns_))), (d_, .inl (cI, 48, .inl (aN ln_)))]) [0, 1, 2, 3] rfl) hK_ 0 rfl rfl rfl hl_.1 rfl (Nat.le_of_ble_eq_true rfl) dX1_moved_14 ⟨Nat.zero_le _, Nat.zero_le _⟩ ?_
        refine lv_istore (lv' := [(4, .int (iI ((os_ i_ : Nat) : Int))), (0, .ref h_), (1, .int (iI (x_))), (2, .int (iI (gz))), (3, .int (iI ((i_ : Nat) : Int)))]) hx_ hb_ dX1_moved_17 hl_ (by decide) rfl (fun ls_ hl_ => ?_)
        refine lv_iload hx_ hb_ dX1_moved_19 (lv_at hl_ 0 rfl) ?_
        refine lv_iload_n hx_ hb_ dX1_moved_21 rfl (lv_at hl_ 2 rfl) ?_
        refine q_icmp_gt (tgt := 42) hx_ hb_ dX1_moved_22 (by decide) (⟨by omega, by omega⟩) (⟨by omega, by omega⟩) (fun c22_ => ?_) (fun c22_ => ?_)
        · skip
          refine q_iinc (k := 4) ((i_ + 1 : Nat) : Int) hx_ hb_ dX1_moved_42 hl_ rfl (rfl) (by decide) (lv' := [(3, .int (iI ((i_ + 1 : Nat) : Int))), (4, .int (iI ((os_ i_ : Nat) : Int))), (0, .ref h_), (1, .int (iI (x_))), (2, .int (iI (gz)))]) rfl (fun ls_ hl_ => ?_)
          refine lv_goto (tgt := 4) hx_ hb_ dX1_moved_45 (by decide) ?_
          exact ih_ (i_ + 1) ((gz)) ls_ (by omega) (by omega) (by rw [hg_]; unfold gde; rw [bst_skip (decide_eq_false (by omega))]) (lv_sub hl_ [2, 3, 4, 0] rfl)
        · skip
          refine lv_iload_n hx_ hb_ dX1_moved_25 rfl (lv_at hl_ 3 rfl) ?_
          refine lv_iconst (v := iI (-1)) hx_ hb_ dX1_moved_26 rfl ?_
          refine q_icmp_eq (tgt := 40) hx_ hb_ dX1_moved_27 (by decide) (⟨by omega, by omega⟩) (⟨by decide, by decide⟩) (fun c27_ => ?_) (fun c27_ => ?_)
          · skip
            refine lv_iload_n hx_ hb_ dX1_moved_40 rfl (lv_at hl_ 4 rfl) ?_
            refine lv_istore_n (lv' := [(2, .int (iI ((i_ : Nat) : Int))), (4, .int (iI ((os_ i_ : Nat) : Int))), (0, .ref h_), (1, .int (iI (x_))), (3, .int (iI ((i_ : Nat) : Int)))]) hx_ hb_ dX1_moved_41 rfl hl_ (by decide) rfl (fun ls_ hl_ => ?_)
            refine q_iinc (k := 4) ((i_ + 1 : Nat) : Int) hx_ hb_ dX1_moved_42 hl_ rfl (rfl) (by decide) (lv' := [(3, .int (iI ((i_ + 1 : Nat) : Int))), (2, .int (iI ((i_ : Nat) : Int))), (4, .int (iI ((os_ i_ : Nat) : Int))), (0, .ref h_), (1, .int (iI (x_)))]) rfl (fun ls_ hl_ => ?_)
            refine lv_goto (tgt := 4) hx_ hb_ dX1_moved_45 (by decide) ?_
            exact ih_ (i_ + 1) (((i_ : Nat) : Int)) ls_ (by omega) (by omega) (by unfold gde; rw [bst_ns (oV_none (by decide) (hg_.symm.trans c27_)) (decide_eq_true (by omega))]; rfl) (lv_sub hl_ [3, 4, 1, 0] rfl)
          · skip
            obtain ⟨g_, hgs, hgz⟩ : ∃ g_, gde os_ x_ i_ = some g_ ∧ gz = (g_ : Int) := by rw [hg_] at c27_; obtain ⟨g_, h1_, h2_⟩ := oV_some c27_; exact ⟨g_, h1_, by rw [hg_, h2_]⟩
            have hgl := (bst_lt hgs).1
            subst hgz
            have fb2 := hB_ g_ (by omega)
            refine lv_iload hx_ hb_ dX1_moved_30 (lv_at hl_ 0 rfl) ?_
            refine lv_aload_n hx_ hb_ dX1_moved_32 rfl (lv_at hl_ 1 rfl) ?_
            refine lv_iload_n hx_ hb_ dX1_moved_33 rfl (lv_at hl_ 3 rfl) ?_
            refine ro_V (As := [.int (iI ((g_ : Nat) : Int))]) (rest := [.int (iI ((os_ i_ : Nat) : Int))]) ⟨hx_, hb_, hml, hown, hts⟩ (c_X1_oldStart l_ G_ cI cZ h_ a_ b_ d_ k_ os_ ns_ ln_ g_ (by omega) (by omega)) (cwV 1 hts gX1_moved_X1_oldStart rfl rfl rfl (by decide +kernel) ⟨Nat.le_of_ble_eq_true rfl, Nat.le_of_ble_eq_true rfl⟩) (hP_.sub (ws' := [(h_, .inr (1, [.ref a_, .ref b_, .ref d_, .int (iI ((k_ : Nat) : Int))])), (a_, .inl (cI, 48, .inl (aN os_))), (b_, .inl (cI, 48, .inl (aN ns_))), (d_, .inl (cI, 48, .inl (aN ln_)))]) [0, 1, 2, 3] rfl) hK_ 0 rfl rfl rfl hl_.1 rfl (Nat.le_of_ble_eq_true rfl) dX1_moved_34 ⟨Nat.zero_le _, Nat.zero_le _⟩ ?_
            refine q_icmp_le (tgt := 42) hx_ hb_ dX1_moved_37 (by decide) (⟨by omega, by omega⟩) (⟨by omega, by omega⟩) (fun c37_ => ?_) (fun c37_ => ?_)
            · skip
              refine q_iinc (k := 4) ((i_ + 1 : Nat) : Int) hx_ hb_ dX1_moved_42 hl_ rfl (rfl) (by decide) (lv' := [(3, .int (iI ((i_ + 1 : Nat) : Int))), (4, .int (iI ((os_ i_ : Nat) : Int))), (0, .ref h_), (1, .int (iI (x_))), (2, .int (iI ((g_ : Nat) : Int)))]) rfl (fun ls_ hl_ => ?_)
              refine lv_goto (tgt := 4) hx_ hb_ dX1_moved_45 (by decide) ?_
              exact ih_ (i_ + 1) (((g_ : Nat) : Int)) ls_ (by omega) (by omega) (by unfold gde; rw [bst_sk hgs (decide_eq_false (by omega))]; rfl) (lv_sub hl_ [2, 3, 4, 0] rfl)
            · skip
              refine lv_iload_n hx_ hb_ dX1_moved_40 rfl (lv_at hl_ 4 rfl) ?_
              refine lv_istore_n (lv' := [(2, .int (iI ((i_ : Nat) : Int))), (4, .int (iI ((os_ i_ : Nat) : Int))), (0, .ref h_), (1, .int (iI (x_))), (3, .int (iI ((i_ : Nat) : Int)))]) hx_ hb_ dX1_moved_41 rfl hl_ (by decide) rfl (fun ls_ hl_ => ?_)
              refine q_iinc (k := 4) ((i_ + 1 : Nat) : Int) hx_ hb_ dX1_moved_42 hl_ rfl (rfl) (by decide) (lv' := [(3, .int (iI ((i_ + 1 : Nat) : Int))), (2, .int (iI ((i_ : Nat) : Int))), (4, .int (iI ((os_ i_ : Nat) : Int))), (0, .ref h_), (1, .int (iI (x_)))]) rfl (fun ls_ hl_ => ?_)
              refine lv_goto (tgt := 4) hx_ hb_ dX1_moved_45 (by decide) ?_
              exact ih_ (i_ + 1) (((i_ : Nat) : Int)) ls_ (by omega) (by omega) (by unfold gde; rw [bst_ss hgs (decide_eq_true (by omega)) (decide_eq_true (by omega))]; rfl) (lv_sub hl_ [3, 4, 1, 0] rfl)
  rw [show entryFrame m_ args 5 = entryFrame m_ ([.ref h_, .int (iI (x_))] : List Value).toArray 5 from by rw [hargs], lg_entry_eq]
  have hl_ := lv_entry ([.ref h_, .int (iI (x_))]) (n := 5) (Nat.le_of_ble_eq_true rfl)
  generalize (lg_sl ([.ref h_, .int (iI (x_))]) ++ List.replicate (5 - (lg_sl ([.ref h_, .int (iI (x_))])).length) Slot.unset).toArray = ls_ at hl_ ⊢
  have hl_ : lv_has ls_ 5 [(0, .ref h_), (1, .int (iI (x_)))] := hl_
  refine lv_iconst (v := iI (-1)) hx_ hb_ dX1_moved_0 rfl ?_
  refine lv_istore_n (lv' := [(2, .int (iI (-1))), (0, .ref h_), (1, .int (iI (x_)))]) hx_ hb_ dX1_moved_1 rfl hl_ (by decide) rfl (fun ls_ hl_ => ?_)
  refine lv_iconst (v := iI ((0 : Nat) : Int)) hx_ hb_ dX1_moved_2 rfl ?_
  refine lv_istore_n (lv' := [(3, .int (iI ((0 : Nat) : Int))), (2, .int (iI (-1))), (0, .ref h_), (1, .int (iI (x_)))]) hx_ hb_ dX1_moved_3 rfl hl_ (by decide) rfl (fun ls_ hl_ => ?_)
  exact lp4 (k_ + 1) 0 (-1) ls_ (by omega) (by omega) (rfl) (lv_sub hl_ [2, 3, 1, 0] rfl)

set_option maxHeartbeats 4000000 in
set_option maxRecDepth 100000 in
/-- Blocks.mustGoBefore -/
theorem c_X1_mustGoBefore (l_ : Launch) (G_ : va_G) (cI cZ : ClassId) (h_ a_ b_ d_ : Nat) (k_ : Nat) (os_ ns_ ln_ : Nat → Nat) (x_ y_ : Nat) (hk_ : k_ ≤ 48) (hx0 : x_ < k_) (hy0 : y_ < k_) (hB_ : B48 k_ os_ ns_ ln_) : Ro l_ yX1_mustGoBefore wsX1_mustGoBefore ({ frames := 2, cells := 0, slots := 0, locals := 42 }) G_ cI cZ [.ref h_, .int (iI ((x_ : Nat) : Int)), .int (iI ((y_ : Nat) : Int))] (wBl cI h_ a_ b_ d_ k_ os_ ns_ ln_) (bZ (mgb os_ ns_ ln_ x_ y_)) := by
  refine Met.ofW (cc := cX1_mustGoBefore) (maxL := 3) (ret := (some .boolean)) (by decide) rfl ?_
  intro p_ e_ s_ m_ args below meth c_ s₁ B hml hv
  obtain ⟨hargs, hP_, hK_⟩ := hv
  have hx_ := B.exec
  have hb_ := B.bytes
  have hr := B.returns
  have hts := atoms_spec (ws := wsX1_mustGoBefore) B.pre
  have hown : s_.vm.findClass RX1 = some m_.cls := findClass_of_methodNamed B.named
  have hlocks := B.notSynchronized
  have hP_ : va_P G_ vwCl [(h_, .inr (1, [.ref a_, .ref b_, .ref d_, .int (iI ((k_ : Nat) : Int))])), (a_, .inl (cI, 48, .inl (aN os_))), (b_, .inl (cI, 48, .inl (aN ns_))), (d_, .inl (cI, 48, .inl (aN ln_)))] s_.heap := hP_
  generalize hQe : MQ below (vp_Si (fun r_ => r_ = iI (bZ (mgb os_ ns_ ln_ x_ y_)))) args s_ 0 0 (fun _ => False) = Q_
  have fb1 := hB_ x_ hx0
  have fb2 := hB_ y_ hy0
  rw [show entryFrame m_ args 3 = entryFrame m_ ([.ref h_, .int (iI ((x_ : Nat) : Int)), .int (iI ((y_ : Nat) : Int))] : List Value).toArray 3 from by rw [hargs], lg_entry_eq]
  have hl_ := lv_entry ([.ref h_, .int (iI ((x_ : Nat) : Int)), .int (iI ((y_ : Nat) : Int))]) (n := 3) (Nat.le_of_ble_eq_true rfl)
  generalize (lg_sl ([.ref h_, .int (iI ((x_ : Nat) : Int)), .int (iI ((y_ : Nat) : Int))]) ++ List.replicate (3 - (lg_sl ([.ref h_, .int (iI ((x_ : Nat) : Int)), .int (iI ((y_ : Nat) : Int))])).length) Slot.unset).toArray = ls_ at hl_ ⊢
  have hl_ : lv_has ls_ 3 [(0, .ref h_), (1, .int (iI ((x_ : Nat) : Int))), (2, .int (iI ((y_ : Nat) : Int)))] := hl_
  refine lv_iload_n hx_ hb_ dX1_mustGoBefore_0 rfl (lv_at hl_ 1 rfl) ?_
  refine lv_iload_n hx_ hb_ dX1_mustGoBefore_1 rfl (lv_at hl_ 2 rfl) ?_
  refine q_icmp_eq (tgt := 47) hx_ hb_ dX1_mustGoBefore_2 (by decide) (⟨by omega, by omega⟩) (⟨by omega, by omega⟩) (fun c2_ => ?_) (fun c2_ => ?_)
  · skip
    refine lv_iconst (v := iI ((0 : Nat) : Int)) hx_ hb_ dX1_mustGoBefore_47 rfl ?_
    rw [← hQe]
    refine q_cast (b := bZ false) rfl ?_
    exact W.zret (v := _) hx_ hb_ hr (nar_bZ _) (fun tt1 htt1 hWW1 => ⟨_, rfl, congrArg iI (congrArg bZ ((decide_eq_false (by omega)).symm)), htt1⟩) (fun q_ h_ => absurd h_ List.not_mem_nil) dX1_mustGoBefore_48
  · skip
    refine lv_aload_n hx_ hb_ dX1_mustGoBefore_5 rfl (lv_at hl_ 0 rfl) ?_
    refine lv_iload_n hx_ hb_ dX1_mustGoBefore_6 rfl (lv_at hl_ 2 rfl) ?_
    refine ro_V (As := [.int (iI ((y_ : Nat) : Int))]) (rest := []) ⟨hx_, hb_, hml, hown, hts⟩ (c_X1_newStart l_ G_ cI cZ h_ a_ b_ d_ k_ os_ ns_ ln_ y_ (by omega) (by omega)) (cwV 1 hts gX1_mustGoBefore_X1_newStart rfl rfl rfl (by decide +kernel) ⟨Nat.le_of_ble_eq_true rfl, Nat.le_of_ble_eq_true rfl⟩) (hP_.sub (ws' := [(h_, .inr (1, [.ref a_, .ref b_, .ref d_, .int (iI ((k_ : Nat) : Int))])), (a_, .inl (cI, 48, .inl (aN os_))), (b_, .inl (cI, 48, .inl (aN ns_))), (d_, .inl (cI, 48, .inl (aN ln_)))]) [0, 1, 2, 3] rfl) hK_ 0 rfl rfl rfl hl_.1 rfl (Nat.le_of_ble_eq_true rfl) dX1_mustGoBefore_7 ⟨Nat.zero_le _, Nat.zero_le _⟩ ?_
    refine lv_aload_n hx_ hb_ dX1_mustGoBefore_10 rfl (lv_at hl_ 0 rfl) ?_
    refine lv_iload_n hx_ hb_ dX1_mustGoBefore_11 rfl (lv_at hl_ 1 rfl) ?_
    refine ro_V (As := [.int (iI ((x_ : Nat) : Int))]) (rest := [.int (iI ((ns_ y_ : Nat) : Int))]) ⟨hx_, hb_, hml, hown, hts⟩ (c_X1_oldStart l_ G_ cI cZ h_ a_ b_ d_ k_ os_ ns_ ln_ x_ (by omega) (by omega)) (cwV 1 hts gX1_mustGoBefore_X1_oldStart rfl rfl rfl (by decide +kernel) ⟨Nat.le_of_ble_eq_true rfl, Nat.le_of_ble_eq_true rfl⟩) (hP_.sub (ws' := [(h_, .inr (1, [.ref a_, .ref b_, .ref d_, .int (iI ((k_ : Nat) : Int))])), (a_, .inl (cI, 48, .inl (aN os_))), (b_, .inl (cI, 48, .inl (aN ns_))), (d_, .inl (cI, 48, .inl (aN ln_)))]) [0, 1, 2, 3] rfl) hK_ 0 rfl rfl rfl hl_.1 rfl (Nat.le_of_ble_eq_true rfl) dX1_mustGoBefore_12 ⟨Nat.zero_le _, Nat.zero_le _⟩ ?_
    refine lv_aload_n hx_ hb_ dX1_mustGoBefore_15 rfl (lv_at hl_ 0 rfl) ?_
    refine lv_iload_n hx_ hb_ dX1_mustGoBefore_16 rfl (lv_at hl_ 1 rfl) ?_
    refine ro_V (As := [.int (iI ((x_ : Nat) : Int))]) (rest := [.int (iI ((os_ x_ : Nat) : Int)), .int (iI ((ns_ y_ : Nat) : Int))]) ⟨hx_, hb_, hml, hown, hts⟩ (c_X1_length l_ G_ cI cZ h_ a_ b_ d_ k_ os_ ns_ ln_ x_ (by omega) (by omega)) (cwV 1 hts gX1_mustGoBefore_X1_length rfl rfl rfl (by decide +kernel) ⟨Nat.le_of_ble_eq_true rfl, Nat.le_of_ble_eq_true rfl⟩) (hP_.sub (ws' := [(h_, .inr (1, [.ref a_, .ref b_, .ref d_, .int (iI ((k_ : Nat) : Int))])), (a_, .inl (cI, 48, .inl (aN os_))), (b_, .inl (cI, 48, .inl (aN ns_))), (d_, .inl (cI, 48, .inl (aN ln_)))]) [0, 1, 2, 3] rfl) hK_ 0 rfl rfl rfl hl_.1 rfl (Nat.le_of_ble_eq_true rfl) dX1_mustGoBefore_17 ⟨Nat.zero_le _, Nat.zero_le _⟩ ?_
    refine q_iaddN hx_ hb_ dX1_mustGoBefore_20 ?_
    refine q_icmp_ge (tgt := 47) hx_ hb_ dX1_mustGoBefore_21 (by decide) (⟨by omega, by omega⟩) (⟨by omega, by omega⟩) (fun c21_ => ?_) (fun c21_ => ?_)
    · skip
      refine lv_iconst (v := iI ((0 : Nat) : Int)) hx_ hb_ dX1_mustGoBefore_47 rfl ?_
      rw [← hQe]
      refine q_cast (b := bZ false) rfl ?_
      exact W.zret (v := _) hx_ hb_ hr (nar_bZ _) (fun tt1 htt1 hWW1 => ⟨_, rfl, congrArg iI (congrArg bZ ((decide_eq_false (by omega)).symm)), htt1⟩) (fun q_ h_ => absurd h_ List.not_mem_nil) dX1_mustGoBefore_48
    · skip
      refine lv_aload_n hx_ hb_ dX1_mustGoBefore_24 rfl (lv_at hl_ 0 rfl) ?_
      refine lv_iload_n hx_ hb_ dX1_mustGoBefore_25 rfl (lv_at hl_ 1 rfl) ?_
      refine ro_V (As := [.int (iI ((x_ : Nat) : Int))]) (rest := []) ⟨hx_, hb_, hml, hown, hts⟩ (c_X1_oldStart l_ G_ cI cZ h_ a_ b_ d_ k_ os_ ns_ ln_ x_ (by omega) (by omega)) (cwV 1 hts gX1_mustGoBefore_X1_oldStart rfl rfl rfl (by decide +kernel) ⟨Nat.le_of_ble_eq_true rfl, Nat.le_of_ble_eq_true rfl⟩) (hP_.sub (ws' := [(h_, .inr (1, [.ref a_, .ref b_, .ref d_, .int (iI ((k_ : Nat) : Int))])), (a_, .inl (cI, 48, .inl (aN os_))), (b_, .inl (cI, 48, .inl (aN ns_))), (d_, .inl (cI, 48, .inl (aN ln_)))]) [0, 1, 2, 3] rfl) hK_ 0 rfl rfl rfl hl_.1 rfl (Nat.le_of_ble_eq_true rfl) dX1_mustGoBefore_26 ⟨Nat.zero_le _, Nat.zero_le _⟩ ?_
      refine lv_aload_n hx_ hb_ dX1_mustGoBefore_29 rfl (lv_at hl_ 0 rfl) ?_
      refine lv_iload_n hx_ hb_ dX1_mustGoBefore_30 rfl (lv_at hl_ 2 rfl) ?_
      refine ro_V (As := [.int (iI ((y_ : Nat) : Int))]) (rest := [.int (iI ((os_ x_ : Nat) : Int))]) ⟨hx_, hb_, hml, hown, hts⟩ (c_X1_newStart l_ G_ cI cZ h_ a_ b_ d_ k_ os_ ns_ ln_ y_ (by omega) (by omega)) (cwV 1 hts gX1_mustGoBefore_X1_newStart rfl rfl rfl (by decide +kernel) ⟨Nat.le_of_ble_eq_true rfl, Nat.le_of_ble_eq_true rfl⟩) (hP_.sub (ws' := [(h_, .inr (1, [.ref a_, .ref b_, .ref d_, .int (iI ((k_ : Nat) : Int))])), (a_, .inl (cI, 48, .inl (aN os_))), (b_, .inl (cI, 48, .inl (aN ns_))), (d_, .inl (cI, 48, .inl (aN ln_)))]) [0, 1, 2, 3] rfl) hK_ 0 rfl rfl rfl hl_.1 rfl (Nat.le_of_ble_eq_true rfl) dX1_mustGoBefore_31 ⟨Nat.zero_le _, Nat.zero_le _⟩ ?_
      refine lv_aload_n hx_ hb_ dX1_mustGoBefore_34 rfl (lv_at hl_ 0 rfl) ?_
      refine lv_iload_n hx_ hb_ dX1_mustGoBefore_35 rfl (lv_at hl_ 2 rfl) ?_
      refine ro_V (As := [.int (iI ((y_ : Nat) : Int))]) (rest := [.int (iI ((ns_ y_ : Nat) : Int)), .int (iI ((os_ x_ : Nat) : Int))]) ⟨hx_, hb_, hml, hown, hts⟩ (c_X1_length l_ G_ cI cZ h_ a_ b_ d_ k_ os_ ns_ ln_ y_ (by omega) (by omega)) (cwV 1 hts gX1_mustGoBefore_X1_length rfl rfl rfl (by decide +kernel) ⟨Nat.le_of_ble_eq_true rfl, Nat.le_of_ble_eq_true rfl⟩) (hP_.sub (ws' := [(h_, .inr (1, [.ref a_, .ref b_, .ref d_, .int (iI ((k_ : Nat) : Int))])), (a_, .inl (cI, 48, .inl (aN os_))), (b_, .inl (cI, 48, .inl (aN ns_))), (d_, .inl (cI, 48, .inl (aN ln_)))]) [0, 1, 2, 3] rfl) hK_ 0 rfl rfl rfl hl_.1 rfl (Nat.le_of_ble_eq_true rfl) dX1_mustGoBefore_36 ⟨Nat.zero_le _, Nat.zero_le _⟩ ?_
      refine q_iaddN hx_ hb_ dX1_mustGoBefore_39 ?_
      refine q_icmp_ge (tgt := 47) hx_ hb_ dX1_mustGoBefore_40 (by decide) (⟨by omega, by omega⟩) (⟨by omega, by omega⟩) (fun c40_ => ?_) (fun c40_ => ?_)
      · skip
        refine lv_iconst (v := iI ((0 : Nat) : Int)) hx_ hb_ dX1_mustGoBefore_47 rfl ?_
        rw [← hQe]
        refine q_cast (b := bZ false) rfl ?_
        exact W.zret (v := _) hx_ hb_ hr (nar_bZ _) (fun tt1 htt1 hWW1 => ⟨_, rfl, congrArg iI (congrArg bZ ((decide_eq_false (by omega)).symm)), htt1⟩) (fun q_ h_ => absurd h_ List.not_mem_nil) dX1_mustGoBefore_48
      · skip
        refine lv_iconst (v := iI ((1 : Nat) : Int)) hx_ hb_ dX1_mustGoBefore_43 rfl ?_
        refine lv_goto (tgt := 48) hx_ hb_ dX1_mustGoBefore_44 (by decide) ?_
        rw [← hQe]
        refine q_cast (b := bZ true) rfl ?_
        exact W.zret (v := _) hx_ hb_ hr (nar_bZ _) (fun tt1 htt1 hWW1 => ⟨_, rfl, congrArg iI (congrArg bZ ((decide_eq_true (by omega)).symm)), htt1⟩) (fun q_ h_ => absurd h_ List.not_mem_nil) dX1_mustGoBefore_48

set_option maxHeartbeats 4000000 in
set_option maxRecDepth 100000 in
/-- Blocks.removeAll -/
theorem c_X1_removeAll (l_ : Launch) (G_ : va_G) (cI cZ : ClassId) (h_ a_ b_ d_ : Nat) (k_ : Nat) (os_ ns_ ln_ : Nat → Nat) (sz : Nat) : Wr (S := Unit) l_ yX1_removeAll wsX1_removeAll ({ frames := 0, cells := 0, slots := 0, locals := 0 }) G_ cI cZ [.ref h_] (wBl cI h_ a_ b_ d_ k_ os_ ns_ ln_) sz (fun _ => True) (fun _ => wBl cI h_ a_ b_ d_ 0 os_ ns_ ln_) := by
  refine Met.ofW (cc := cX1_removeAll) (maxL := 1) (ret := (none)) (by decide) rfl ?_
  intro p_ e_ s_ m_ args below meth c_ s₁ B hml hv
  obtain ⟨hargs, hsz, hP_, hK_, hD0⟩ := hv
  have hx_ := B.exec
  have hb_ := B.bytes
  have hr := B.returns
  have hts := atoms_spec (ws := wsX1_removeAll) B.pre
  have hown : s_.vm.findClass RX1 = some m_.cls := findClass_of_methodNamed B.named
  have hlocks := B.notSynchronized
  have hi1_ : ∀ w_ ∈ wsX10, w_ ∈ wsX1_removeAll := by decide +kernel
  have hf21_ := hts (.fieldLink RX1 21 "RelocatingPatch$Blocks" "size" "I") (by decide +kernel)
  subst hsz
  have hD_ := hD0.self (sz := s_.heap.size)
  generalize hAe : va_A (wBl cI h_ a_ b_ d_ k_ os_ ns_ ln_) s_.heap.size = A_ at hD_ ⊢
  have hA_ : ∀ q_ : Nat, s_.heap.size ≤ q_ → A_ q_ := fun q_ h_ => by rw [← hAe]; exact Or.inr h_
  have hS_ : va_S A_ s_.heap s_.heap [] := va_S.rf
  have hP_ : va_P G_ vwCl [(h_, .inr (1, [.ref a_, .ref b_, .ref d_, .int (iI ((k_ : Nat) : Int))])), (a_, .inl (cI, 48, .inl (aN os_))), (b_, .inl (cI, 48, .inl (aN ns_))), (d_, .inl (cI, 48, .inl (aN ln_)))] s_.heap := hP_
  have hD_ : va_D A_ [(h_, .inr (1, [.ref a_, .ref b_, .ref d_, .int (iI ((k_ : Nat) : Int))])), (a_, .inl (cI, 48, .inl (aN os_))), (b_, .inl (cI, 48, .inl (aN ns_))), (d_, .inl (cI, 48, .inl (aN ln_)))] := hD_
  generalize hQe : MQ below (va_Qv (S := Unit) (fun _ => True) (fun u1 t1 => va_P G_ vwCl ((fun _ => wBl cI h_ a_ b_ d_ 0 os_ ns_ ln_) u1) t1.heap) A_) args s_ 0 0 A_ = Q_
  rw [show entryFrame m_ args 1 = entryFrame m_ ([.ref h_] : List Value).toArray 1 from by rw [hargs], lg_entry_eq]
  have hl_ := lv_entry ([.ref h_]) (n := 1) (Nat.le_of_ble_eq_true rfl)
  generalize (lg_sl ([.ref h_]) ++ List.replicate (1 - (lg_sl ([.ref h_])).length) Slot.unset).toArray = ls_ at hl_ ⊢
  have hl_ : lv_has ls_ 1 [(0, .ref h_)] := hl_
  refine lv_aload_n hx_ hb_ dX1_removeAll_0 rfl (lv_at hl_ 0 rfl) ?_
  refine lv_iconst (v := iI ((0 : Nat) : Int)) hx_ hb_ dX1_removeAll_1 rfl ?_
  refine va_put (D := G_) (ci := 1) (v := .int (iI ((0 : Nat) : Int))) (ty := .int) (C := RX1) (T := TX1) (N := 4) hx_ hb_ hts hi1_ tyX1 tyX1_ok nmX1 hown hK_ hP_ hD_ hS_ 0 rfl rfl 3 (by decide) hf21_ (fun _ h9 => h9) rfl (by decide +kernel) rfl rfl (Nat.le_of_ble_eq_true rfl) dX1_removeAll_2 (fun H_ locs hP_ hD_ hS_ => ?_)
  have hP_ : va_P G_ vwCl [(h_, .inr (1, [.ref a_, .ref b_, .ref d_, .int (iI ((0 : Nat) : Int))])), (a_, .inl (cI, 48, .inl (aN os_))), (b_, .inl (cI, 48, .inl (aN ns_))), (d_, .inl (cI, 48, .inl (aN ln_)))] H_ := hP_
  have hD_ : va_D A_ [(h_, .inr (1, [.ref a_, .ref b_, .ref d_, .int (iI ((0 : Nat) : Int))])), (a_, .inl (cI, 48, .inl (aN os_))), (b_, .inl (cI, 48, .inl (aN ns_))), (d_, .inl (cI, 48, .inl (aN ln_)))] := hD_
  rw [← hQe]
  exact W.vret hx_ hb_ hr (fun tt1 htt1 hWW1 => ⟨⟨(), rfl, trivial, by show va_P G_ vwCl _ tt1.heap; rw [htt1]; exact hP_⟩, hS_.F htt1⟩) hS_.2.2 dX1_removeAll_5

set_option maxHeartbeats 4000000 in
set_option maxRecDepth 100000 in
/-- Blocks.insert -/
theorem c_X1_insert (l_ : Launch) (G_ : va_G) (cI cZ : ClassId) (h_ a_ b_ d_ : Nat) (k_ : Nat) (os_ ns_ ln_ : Nat → Nat) (x_ y_ z_ : Nat) (hk_ : k_ < 48) (hB_ : B48 k_ os_ ns_ ln_) (hy_ : y_ ≤ 48) (sz : Nat) : Wr (S := Nat) l_ yX1_insert wsX1_insert ({ frames := 0, cells := 0, slots := 0, locals := 0 }) G_ cI cZ [.ref h_, .int (iI ((x_ : Nat) : Int)), .int (iI ((y_ : Nat) : Int)), .int (iI ((z_ : Nat) : Int))] (wBl cI h_ a_ b_ d_ k_ os_ ns_ ln_) sz (fun q_ => q_ ≤ k_ ∧ (0 < q_ → ns_ (q_ - 1) ≤ y_) ∧ ∀ j_, q_ ≤ j_ → j_ < k_ → y_ < ns_ j_) (fun q_ => wBl cI h_ a_ b_ d_ (k_ + 1) (ins os_ q_ k_ x_) (ins ns_ q_ k_ y_) (ins ln_ q_ k_ z_)) := by
  refine Met.ofW (cc := cX1_insert) (maxL := 5) (ret := (none)) (by decide) rfl ?_
  intro p_ e_ s_ m_ args below meth c_ s₁ B hml hv
  obtain ⟨hargs, hsz, hP_, hK_, hD0⟩ := hv
  have hx_ := B.exec
  have hb_ := B.bytes
  have hr := B.returns
  have hts := atoms_spec (ws := wsX1_insert) B.pre
  have hown : s_.vm.findClass RX1 = some m_.cls := findClass_of_methodNamed B.named
  have hlocks := B.notSynchronized
  have hi1_ : ∀ w_ ∈ wsX10, w_ ∈ wsX1_insert := by decide +kernel
  have hf9_ := hts (.fieldLink RX1 9 "RelocatingPatch$Blocks" "oldStarts" "[I") (by decide +kernel)
  have hf15_ := hts (.fieldLink RX1 15 "RelocatingPatch$Blocks" "newStarts" "[I") (by decide +kernel)
  have hf18_ := hts (.fieldLink RX1 18 "RelocatingPatch$Blocks" "lengths" "[I") (by decide +kernel)
  have hf21_ := hts (.fieldLink RX1 21 "RelocatingPatch$Blocks" "size" "I") (by decide +kernel)
  subst hsz
  have hD_ := hD0.self (sz := s_.heap.size)
  generalize hAe : va_A (wBl cI h_ a_ b_ d_ k_ os_ ns_ ln_) s_.heap.size = A_ at hD_ ⊢
  have hA_ : ∀ q_ : Nat, s_.heap.size ≤ q_ → A_ q_ := fun q_ h_ => by rw [← hAe]; exact Or.inr h_
  have hS_ : va_S A_ s_.heap s_.heap [] := va_S.rf
  have hP_ : va_P G_ vwCl [(h_, .inr (1, [.ref a_, .ref b_, .ref d_, .int (iI ((k_ : Nat) : Int))])), (a_, .inl (cI, 48, .inl (aN os_))), (b_, .inl (cI, 48, .inl (aN ns_))), (d_, .inl (cI, 48, .inl (aN ln_)))] s_.heap := hP_
  have hD_ : va_D A_ [(h_, .inr (1, [.ref a_, .ref b_, .ref d_, .int (iI ((k_ : Nat) : Int))])), (a_, .inl (cI, 48, .inl (aN os_))), (b_, .inl (cI, 48, .inl (aN ns_))), (d_, .inl (cI, 48, .inl (aN ln_)))] := hD_
  generalize hQe : MQ below (va_Qv (S := Nat) (fun q_ => q_ ≤ k_ ∧ (0 < q_ → ns_ (q_ - 1) ≤ y_) ∧ ∀ j_, q_ ≤ j_ → j_ < k_ → y_ < ns_ j_) (fun u1 t1 => va_P G_ vwCl ((fun q_ => wBl cI h_ a_ b_ d_ (k_ + 1) (ins os_ q_ k_ x_) (ins ns_ q_ k_ y_) (ins ln_ q_ k_ z_)) u1) t1.heap) A_) args s_ 0 0 A_ = Q_
  have lp16 : ∀ (n_ : Nat) (q_ : Nat) (H_ : Heap) (locs : List Loc) (ls_ : Array Slot), (q_ ≤ k_) → (q_ + 1 ≤ n_) → (∀ j_, q_ ≤ j_ → j_ < k_ → y_ < ns_ j_) → va_P G_ vwCl [(h_, .inr (1, [.ref a_, .ref b_, .ref d_, .int (iI ((k_ : Nat) : Int))])), (a_, .inl (cI, 48, .inl (aN (shf os_ q_ k_)))), (b_, .inl (cI, 48, .inl (aN (shf ns_ q_ k_)))), (d_, .inl (cI, 48, .inl (aN (shf ln_ q_ k_))))] H_ → va_D A_ [(h_, .inr (1, [.ref a_, .ref b_, .ref d_, .int (iI ((k_ : Nat) : Int))])), (a_, .inl (cI, 48, .inl (aN (shf os_ q_ k_)))), (b_, .inl (cI, 48, .inl (aN (shf ns_ q_ k_)))), (d_, .inl (cI, 48, .inl (aN (shf ln_ q_ k_))))] → va_S A_ s_.heap H_ locs → lv_has ls_ 5 [(0, .ref h_), (1, .int (iI ((x_ : Nat) : Int))), (2, .int (iI ((y_ : Nat) : Int))), (3, .int (iI ((z_ : Nat) : Int))), (4, .int (iI ((q_ : Nat) : Int)))] → W p_ l_ e_ (headSpec wsX1_insert ({ frames := 0, cells := 0, slots := 0, locals := 0 })).room s_ m_ args below meth c_ H_ locs 0 0 Q_ (F0 m_ 16 ls_ []) := by
    intro n_
    induction n_ with
    | zero =>
      intro q_ H_ locs ls_ hq_ hn_ hgt
      exact False.elim (by omega)
    | succ n_ ih_ =>
      intro q_ H_ locs ls_ hq_ hn_ hgt hP_ hD_ hS_ hl_
      refine lv_iload hx_ hb_ dX1_insert_16 (lv_at hl_ 4 rfl) ?_
      refine q_if_le (tgt := 88) hx_ hb_ dX1_insert_18 (by decide) (⟨by omega, by omega⟩) (fun c18_ => ?_) (fun c18_ => ?_)
      · skip
        refine lv_aload_n hx_ hb_ dX1_insert_88 rfl (lv_at hl_ 0 rfl) ?_
        refine va_get (D := G_) (ci := 1) (v := .ref a_) (C := RX1) (T := TX1) (N := 4) hx_ hb_ hts hi1_ hown hK_ hP_ 0 rfl rfl 0 (by decide) hf9_ (fun _ h9 => h9) rfl dX1_insert_89 ?_
        refine lv_iload hx_ hb_ dX1_insert_92 (lv_at hl_ 4 rfl) ?_
        refine lv_iload_n hx_ hb_ dX1_insert_94 rfl (lv_at hl_ 1 rfl) ?_
        refine q_istN hx_ hb_ hK_ hP_ hD_ hS_ 1 rfl (by decide) (q_) (by omega) (x_) dX1_insert_95 (ws' := [(h_, .inr (1, [.ref a_, .ref b_, .ref d_, .int (iI ((k_ : Nat) : Int))])), (a_, .inl (cI, 48, .inl (aN (va_up (shf os_ q_ k_) q_ x_)))), (b_, .inl (cI, 48, .inl (aN (shf ns_ q_ k_)))), (d_, .inl (cI, 48, .inl (aN (shf ln_ q_ k_))))]) rfl (fun H_ locs hP_ hD_ hS_ => ?_)
        refine lv_aload_n hx_ hb_ dX1_insert_96 rfl (lv_at hl_ 0 rfl) ?_
        refine va_get (D := G_) (ci := 1) (v := .ref b_) (C := RX1) (T := TX1) (N := 4) hx_ hb_ hts hi1_ hown hK_ hP_ 0 rfl rfl 1 (by decide) hf15_ (fun _ h9 => h9) rfl dX1_insert_97 ?_
        refine lv_iload hx_ hb_ dX1_insert_100 (lv_at hl_ 4 rfl) ?_
        refine lv_iload_n hx_ hb_ dX1_insert_102 rfl (lv_at hl_ 2 rfl) ?_
        refine q_istN hx_ hb_ hK_ hP_ hD_ hS_ 2 rfl (by decide) (q_) (by omega) (y_) dX1_insert_103 (ws' := [(h_, .inr (1, [.ref a_, .ref b_, .ref d_, .int (iI ((k_ : Nat) : Int))])), (a_, .inl (cI, 48, .inl (aN (va_up (shf os_ q_ k_) q_ x_)))), (b_, .inl (cI, 48, .inl (aN (va_up (shf ns_ q_ k_) q_ y_)))), (d_, .inl (cI, 48, .inl (aN (shf ln_ q_ k_))))]) rfl (fun H_ locs hP_ hD_ hS_ => ?_)
        refine lv_aload_n hx_ hb_ dX1_insert_104 rfl (lv_at hl_ 0 rfl) ?_
        refine va_get (D := G_) (ci := 1) (v := .ref d_) (C := RX1) (T := TX1) (N := 4) hx_ hb_ hts hi1_ hown hK_ hP_ 0 rfl rfl 2 (by decide) hf18_ (fun _ h9 => h9) rfl dX1_insert_105 ?_
        refine lv_iload hx_ hb_ dX1_insert_108 (lv_at hl_ 4 rfl) ?_
        refine lv_iload_n hx_ hb_ dX1_insert_110 rfl (lv_at hl_ 3 rfl) ?_
        refine q_istN hx_ hb_ hK_ hP_ hD_ hS_ 3 rfl (by decide) (q_) (by omega) (z_) dX1_insert_111 (ws' := [(h_, .inr (1, [.ref a_, .ref b_, .ref d_, .int (iI ((k_ : Nat) : Int))])), (a_, .inl (cI, 48, .inl (aN (va_up (shf os_ q_ k_) q_ x_)))), (b_, .inl (cI, 48, .inl (aN (va_up (shf ns_ q_ k_) q_ y_)))), (d_, .inl (cI, 48, .inl (aN (va_up (shf ln_ q_ k_) q_ z_))))]) rfl (fun H_ locs hP_ hD_ hS_ => ?_)
        refine lv_aload_n hx_ hb_ dX1_insert_112 rfl (lv_at hl_ 0 rfl) ?_
        refine lv_dup hx_ hb_ dX1_insert_113 rfl ?_
        refine va_get (D := G_) (ci := 1) (v := .int (iI ((k_ : Nat) : Int))) (C := RX1) (T := TX1) (N := 4) hx_ hb_ hts hi1_ hown hK_ hP_ 0 rfl rfl 3 (by decide) hf21_ (fun _ h9 => h9) rfl dX1_insert_114 ?_
        refine lv_iconst (v := iI ((1 : Nat) : Int)) hx_ hb_ dX1_insert_117 rfl ?_
        refine q_iaddN hx_ hb_ dX1_insert_118 ?_
        refine va_put (D := G_) (ci := 1) (v := .int (iI ((k_ + 1 : Nat) : Int))) (ty := .int) (C := RX1) (T := TX1) (N := 4) hx_ hb_ hts hi1_ tyX1 tyX1_ok nmX1 hown hK_ hP_ hD_ hS_ 0 rfl rfl 3 (by decide) hf21_ (fun _ h9 => h9) rfl (by decide +kernel) rfl rfl (Nat.le_of_ble_eq_true rfl) dX1_insert_119 (fun H_ locs hP_ hD_ hS_ => ?_)
        have hP_ : va_P G_ vwCl [(h_, .inr (1, [.ref a_, .ref b_, .ref d_, .int (iI ((k_ + 1 : Nat) : Int))])), (a_, .inl (cI, 48, .inl (aN (va_up (shf os_ q_ k_) q_ x_)))), (b_, .inl (cI, 48, .inl (aN (va_up (shf ns_ q_ k_) q_ y_)))), (d_, .inl (cI, 48, .inl (aN (va_up (shf ln_ q_ k_) q_ z_))))] H_ := hP_
        have hD_ : va_D A_ [(h_, .inr (1, [.ref a_, .ref b_, .ref d_, .int (iI ((k_ + 1 : Nat) : Int))])), (a_, .inl (cI, 48, .inl (aN (va_up (shf os_ q_ k_) q_ x_)))), (b_, .inl (cI, 48, .inl (aN (va_up (shf ns_ q_ k_) q_ y_)))), (d_, .inl (cI, 48, .inl (aN (va_up (shf ln_ q_ k_) q_ z_))))] := hD_
        rw [← hQe]
        exact W.vret hx_ hb_ hr (fun tt1 htt1 hWW1 => ⟨⟨q_, rfl, ⟨hq_, fun h0_ => by omega, hgt⟩, by show va_P G_ vwCl _ tt1.heap; rw [htt1]; exact hP_⟩, hS_.F htt1⟩) hS_.2.2 dX1_insert_122
      · skip
        have fb1 := hB_ (q_ - 1) (by omega)
        refine lv_aload_n hx_ hb_ dX1_insert_21 rfl (lv_at hl_ 0 rfl) ?_
        refine va_get (D := G_) (ci := 1) (v := .ref b_) (C := RX1) (T := TX1) (N := 4) hx_ hb_ hts hi1_ hown hK_ hP_ 0 rfl rfl 1 (by decide) hf15_ (fun _ h9 => h9) rfl dX1_insert_22 ?_
        refine lv_iload hx_ hb_ dX1_insert_25 (lv_at hl_ 4 rfl) ?_
        refine lv_iconst (v := iI ((1 : Nat) : Int)) hx_ hb_ dX1_insert_27 rfl ?_
        refine q_isub hx_ hb_ dX1_insert_28 ?_
        refine q_cast (b := ((q_ - 1 : Nat) : Int)) (by omega) ?_
        refine q_ildN hx_ hb_ hK_ hP_ 2 rfl (by decide) (q_ - 1) (by omega) (ns_ (q_ - 1)) (shf_lt ns_ (by omega)) dX1_insert_29 ?_
        refine lv_iload_n hx_ hb_ dX1_insert_30 rfl (lv_at hl_ 2 rfl) ?_
        refine q_icmp_le (tgt := 88) hx_ hb_ dX1_insert_31 (by decide) (⟨by omega, by omega⟩) (⟨by omega, by omega⟩) (fun c31_ => ?_) (fun c31_ => ?_)
        · skip
          refine lv_aload_n hx_ hb_ dX1_insert_88 rfl (lv_at hl_ 0 rfl) ?_
          refine va_get (D := G_) (ci := 1) (v := .ref a_) (C := RX1) (T := TX1) (N := 4) hx_ hb_ hts hi1_ hown hK_ hP_ 0 rfl rfl 0 (by decide) hf9_ (fun _ h9 => h9) rfl dX1_insert_89 ?_
          refine lv_iload hx_ hb_ dX1_insert_92 (lv_at hl_ 4 rfl) ?_
          refine lv_iload_n hx_ hb_ dX1_insert_94 rfl (lv_at hl_ 1 rfl) ?_
          refine q_istN hx_ hb_ hK_ hP_ hD_ hS_ 1 rfl (by decide) (q_) (by omega) (x_) dX1_insert_95 (ws' := [(h_, .inr (1, [.ref a_, .ref b_, .ref d_, .int (iI ((k_ : Nat) : Int))])), (a_, .inl (cI, 48, .inl (aN (va_up (shf os_ q_ k_) q_ x_)))), (b_, .inl (cI, 48, .inl (aN (shf ns_ q_ k_)))), (d_, .inl (cI, 48, .inl (aN (shf ln_ q_ k_))))]) rfl (fun H_ locs hP_ hD_ hS_ => ?_)
          refine lv_aload_n hx_ hb_ dX1_insert_96 rfl (lv_at hl_ 0 rfl) ?_
          refine va_get (D := G_) (ci := 1) (v := .ref b_) (C := RX1) (T := TX1) (N := 4) hx_ hb_ hts hi1_ hown hK_ hP_ 0 rfl rfl 1 (by decide) hf15_ (fun _ h9 => h9) rfl dX1_insert_97 ?_
          refine lv_iload hx_ hb_ dX1_insert_100 (lv_at hl_ 4 rfl) ?_
          refine lv_iload_n hx_ hb_ dX1_insert_102 rfl (lv_at hl_ 2 rfl) ?_
          refine q_istN hx_ hb_ hK_ hP_ hD_ hS_ 2 rfl (by decide) (q_) (by omega) (y_) dX1_insert_103 (ws' := [(h_, .inr (1, [.ref a_, .ref b_, .ref d_, .int (iI ((k_ : Nat) : Int))])), (a_, .inl (cI, 48, .inl (aN (va_up (shf os_ q_ k_) q_ x_)))), (b_, .inl (cI, 48, .inl (aN (va_up (shf ns_ q_ k_) q_ y_)))), (d_, .inl (cI, 48, .inl (aN (shf ln_ q_ k_))))]) rfl (fun H_ locs hP_ hD_ hS_ => ?_)
          refine lv_aload_n hx_ hb_ dX1_insert_104 rfl (lv_at hl_ 0 rfl) ?_
          refine va_get (D := G_) (ci := 1) (v := .ref d_) (C := RX1) (T := TX1) (N := 4) hx_ hb_ hts hi1_ hown hK_ hP_ 0 rfl rfl 2 (by decide) hf18_ (fun _ h9 => h9) rfl dX1_insert_105 ?_
          refine lv_iload hx_ hb_ dX1_insert_108 (lv_at hl_ 4 rfl) ?_
          refine lv_iload_n hx_ hb_ dX1_insert_110 rfl (lv_at hl_ 3 rfl) ?_
          refine q_istN hx_ hb_ hK_ hP_ hD_ hS_ 3 rfl (by decide) (q_) (by omega) (z_) dX1_insert_111 (ws' := [(h_, .inr (1, [.ref a_, .ref b_, .ref d_, .int (iI ((k_ : Nat) : Int))])), (a_, .inl (cI, 48, .inl (aN (va_up (shf os_ q_ k_) q_ x_)))), (b_, .inl (cI, 48, .inl (aN (va_up (shf ns_ q_ k_) q_ y_)))), (d_, .inl (cI, 48, .inl (aN (va_up (shf ln_ q_ k_) q_ z_))))]) rfl (fun H_ locs hP_ hD_ hS_ => ?_)
          refine lv_aload_n hx_ hb_ dX1_insert_112 rfl (lv_at hl_ 0 rfl) ?_
          refine lv_dup hx_ hb_ dX1_insert_113 rfl ?_
          refine va_get (D := G_) (ci := 1) (v := .int (iI ((k_ : Nat) : Int))) (C := RX1) (T := TX1) (N := 4) hx_ hb_ hts hi1_ hown hK_ hP_ 0 rfl rfl 3 (by decide) hf21_ (fun _ h9 => h9) rfl dX1_insert_114 ?_
          refine lv_iconst (v := iI ((1 : Nat) : Int)) hx_ hb_ dX1_insert_117 rfl ?_
          refine q_iaddN hx_ hb_ dX1_insert_118 ?_
          refine va_put (D := G_) (ci := 1) (v := .int (iI ((k_ + 1 : Nat) : Int))) (ty := .int) (C := RX1) (T := TX1) (N := 4) hx_ hb_ hts hi1_ tyX1 tyX1_ok nmX1 hown hK_ hP_ hD_ hS_ 0 rfl rfl 3 (by decide) hf21_ (fun _ h9 => h9) rfl (by decide +kernel) rfl rfl (Nat.le_of_ble_eq_true rfl) dX1_insert_119 (fun H_ locs hP_ hD_ hS_ => ?_)
          have hP_ : va_P G_ vwCl [(h_, .inr (1, [.ref a_, .ref b_, .ref d_, .int (iI ((k_ + 1 : Nat) : Int))])), (a_, .inl (cI, 48, .inl (aN (va_up (shf os_ q_ k_) q_ x_)))), (b_, .inl (cI, 48, .inl (aN (va_up (shf ns_ q_ k_) q_ y_)))), (d_, .inl (cI, 48, .inl (aN (va_up (shf ln_ q_ k_) q_ z_))))] H_ := hP_
          have hD_ : va_D A_ [(h_, .inr (1, [.ref a_, .ref b_, .ref d_, .int (iI ((k_ + 1 : Nat) : Int))])), (a_, .inl (cI, 48, .inl (aN (va_up (shf os_ q_ k_) q_ x_)))), (b_, .inl (cI, 48, .inl (aN (va_up (shf ns_ q_ k_) q_ y_)))), (d_, .inl (cI, 48, .inl (aN (va_up (shf ln_ q_ k_) q_ z_))))] := hD_
          rw [← hQe]
          exact W.vret hx_ hb_ hr (fun tt1 htt1 hWW1 => ⟨⟨q_, rfl, ⟨hq_, fun h0_ => by omega, hgt⟩, by show va_P G_ vwCl _ tt1.heap; rw [htt1]; exact hP_⟩, hS_.F htt1⟩) hS_.2.2 dX1_insert_122
        · skip
          refine lv_aload_n hx_ hb_ dX1_insert_34 rfl (lv_at hl_ 0 rfl) ?_
          refine va_get (D := G_) (ci := 1) (v := .ref a_) (C := RX1) (T := TX1) (N := 4) hx_ hb_ hts hi1_ hown hK_ hP_ 0 rfl rfl 0 (by decide) hf9_ (fun _ h9 => h9) rfl dX1_insert_35 ?_
          refine lv_iload hx_ hb_ dX1_insert_38 (lv_at hl_ 4 rfl) ?_
          refine lv_aload_n hx_ hb_ dX1_insert_40 rfl (lv_at hl_ 0 rfl) ?_
          refine va_get (D := G_) (ci := 1) (v := .ref a_) (C := RX1) (T := TX1) (N := 4) hx_ hb_ hts hi1_ hown hK_ hP_ 0 rfl rfl 0 (by decide) hf9_ (fun _ h9 => h9) rfl dX1_insert_41 ?_
          refine lv_iload hx_ hb_ dX1_insert_44 (lv_at hl_ 4 rfl) ?_
          refine lv_iconst (v := iI ((1 : Nat) : Int)) hx_ hb_ dX1_insert_46 rfl ?_
          refine q_isub hx_ hb_ dX1_insert_47 ?_
          refine q_cast (b := ((q_ - 1 : Nat) : Int)) (by omega) ?_
          refine q_ildN hx_ hb_ hK_ hP_ 1 rfl (by decide) (q_ - 1) (by omega) (os_ (q_ - 1)) (shf_lt os_ (by omega)) dX1_insert_48 ?_
          refine q_istN hx_ hb_ hK_ hP_ hD_ hS_ 1 rfl (by decide) (q_) (by omega) (os_ (q_ - 1)) dX1_insert_49 (ws' := [(h_, .inr (1, [.ref a_, .ref b_, .ref d_, .int (iI ((k_ : Nat) : Int))])), (a_, .inl (cI, 48, .inl (aN (va_up (shf os_ q_ k_) q_ (os_ (q_ - 1)))))), (b_, .inl (cI, 48, .inl (aN (shf ns_ q_ k_)))), (d_, .inl (cI, 48, .inl (aN (shf ln_ q_ k_))))]) rfl (fun H_ locs hP_ hD_ hS_ => ?_)
          refine lv_aload_n hx_ hb_ dX1_insert_50 rfl (lv_at hl_ 0 rfl) ?_
          refine va_get (D := G_) (ci := 1) (v := .ref b_) (C := RX1) (T := TX1) (N := 4) hx_ hb_ hts hi1_ hown hK_ hP_ 0 rfl rfl 1 (by decide) hf15_ (fun _ h9 => h9) rfl dX1_insert_51 ?_
          refine lv_iload hx_ hb_ dX1_insert_54 (lv_at hl_ 4 rfl) ?_
          refine lv_aload_n hx_ hb_ dX1_insert_56 rfl (lv_at hl_ 0 rfl) ?_
          refine va_get (D := G_) (ci := 1) (v := .ref b_) (C := RX1) (T := TX1) (N := 4) hx_ hb_ hts hi1_ hown hK_ hP_ 0 rfl rfl 1 (by decide) hf15_ (fun _ h9 => h9) rfl dX1_insert_57 ?_
          refine lv_iload hx_ hb_ dX1_insert_60 (lv_at hl_ 4 rfl) ?_
          refine lv_iconst (v := iI ((1 : Nat) : Int)) hx_ hb_ dX1_insert_62 rfl ?_
          refine q_isub hx_ hb_ dX1_insert_63 ?_
          refine q_cast (b := ((q_ - 1 : Nat) : Int)) (by omega) ?_
          refine q_ildN hx_ hb_ hK_ hP_ 2 rfl (by decide) (q_ - 1) (by omega) (ns_ (q_ - 1)) (shf_lt ns_ (by omega)) dX1_insert_64 ?_
          refine q_istN hx_ hb_ hK_ hP_ hD_ hS_ 2 rfl (by decide) (q_) (by omega) (ns_ (q_ - 1)) dX1_insert_65 (ws' := [(h_, .inr (1, [.ref a_, .ref b_, .ref d_, .int (iI ((k_ : Nat) : Int))])), (a_, .inl (cI, 48, .inl (aN (va_up (shf os_ q_ k_) q_ (os_ (q_ - 1)))))), (b_, .inl (cI, 48, .inl (aN (va_up (shf ns_ q_ k_) q_ (ns_ (q_ - 1)))))), (d_, .inl (cI, 48, .inl (aN (shf ln_ q_ k_))))]) rfl (fun H_ locs hP_ hD_ hS_ => ?_)
          refine lv_aload_n hx_ hb_ dX1_insert_66 rfl (lv_at hl_ 0 rfl) ?_
          refine va_get (D := G_) (ci := 1) (v := .ref d_) (C := RX1) (T := TX1) (N := 4) hx_ hb_ hts hi1_ hown hK_ hP_ 0 rfl rfl 2 (by decide) hf18_ (fun _ h9 => h9) rfl dX1_insert_67 ?_
          refine lv_iload hx_ hb_ dX1_insert_70 (lv_at hl_ 4 rfl) ?_
          refine lv_aload_n hx_ hb_ dX1_insert_72 rfl (lv_at hl_ 0 rfl) ?_
          refine va_get (D := G_) (ci := 1) (v := .ref d_) (C := RX1) (T := TX1) (N := 4) hx_ hb_ hts hi1_ hown hK_ hP_ 0 rfl rfl 2 (by decide) hf18_ (fun _ h9 => h9) rfl dX1_insert_73 ?_
          refine lv_iload hx_ hb_ dX1_insert_76 (lv_at hl_ 4 rfl) ?_
          refine lv_iconst (v := iI ((1 : Nat) : Int)) hx_ hb_ dX1_insert_78 rfl ?_
          refine q_isub hx_ hb_ dX1_insert_79 ?_
          refine q_cast (b := ((q_ - 1 : Nat) : Int)) (by omega) ?_
          refine q_ildN hx_ hb_ hK_ hP_ 3 rfl (by decide) (q_ - 1) (by omega) (ln_ (q_ - 1)) (shf_lt ln_ (by omega)) dX1_insert_80 ?_
          refine q_istN hx_ hb_ hK_ hP_ hD_ hS_ 3 rfl (by decide) (q_) (by omega) (ln_ (q_ - 1)) dX1_insert_81 (ws' := [(h_, .inr (1, [.ref a_, .ref b_, .ref d_, .int (iI ((k_ : Nat) : Int))])), (a_, .inl (cI, 48, .inl (aN (va_up (shf os_ q_ k_) q_ (os_ (q_ - 1)))))), (b_, .inl (cI, 48, .inl (aN (va_up (shf ns_ q_ k_) q_ (ns_ (q_ - 1)))))), (d_, .inl (cI, 48, .inl (aN (va_up (shf ln_ q_ k_) q_ (ln_ (q_ - 1))))))]) rfl (fun H_ locs hP_ hD_ hS_ => ?_)
          refine q_iinc (k := 4) ((q_ - 1 : Nat) : Int) hx_ hb_ dX1_insert_82 hl_ rfl (by omega) (by decide) (lv' := [(4, .int (iI ((q_ - 1 : Nat) : Int))), (0, .ref h_), (1, .int (iI ((x_ : Nat) : Int))), (2, .int (iI ((y_ : Nat) : Int))), (3, .int (iI ((z_ : Nat) : Int)))]) rfl (fun ls_ hl_ => ?_)
          refine lv_goto (tgt := 16) hx_ hb_ dX1_insert_85 (by decide) ?_
          exact ih_ (q_ - 1) _ _ ls_ (by omega) (by omega) (fun j_ h1_ h2_ => by by_cases hj_ : j_ = q_ - 1; rw [hj_]; omega; exact hgt j_ (by omega) h2_) (by rw [← shf_step os_ (by omega) hq_, ← shf_step ns_ (by omega) hq_, ← shf_step ln_ (by omega) hq_]; exact hP_) (by rw [← shf_step os_ (by omega) hq_, ← shf_step ns_ (by omega) hq_, ← shf_step ln_ (by omega) hq_]; exact hD_) hS_ (lv_sub hl_ [1, 2, 3, 4, 0] rfl)
  rw [show entryFrame m_ args 5 = entryFrame m_ ([.ref h_, .int (iI ((x_ : Nat) : Int)), .int (iI ((y_ : Nat) : Int)), .int (iI ((z_ : Nat) : Int))] : List Value).toArray 5 from by rw [hargs], lg_entry_eq]
  have hl_ := lv_entry ([.ref h_, .int (iI ((x_ : Nat) : Int)), .int (iI ((y_ : Nat) : Int)), .int (iI ((z_ : Nat) : Int))]) (n := 5) (Nat.le_of_ble_eq_true rfl)
  generalize (lg_sl ([.ref h_, .int (iI ((x_ : Nat) : Int)), .int (iI ((y_ : Nat) : Int)), .int (iI ((z_ : Nat) : Int))]) ++ List.replicate (5 - (lg_sl ([.ref h_, .int (iI ((x_ : Nat) : Int)), .int (iI ((y_ : Nat) : Int)), .int (iI ((z_ : Nat) : Int))])).length) Slot.unset).toArray = ls_ at hl_ ⊢
  have hl_ : lv_has ls_ 5 [(0, .ref h_), (1, .int (iI ((x_ : Nat) : Int))), (2, .int (iI ((y_ : Nat) : Int))), (3, .int (iI ((z_ : Nat) : Int)))] := hl_
  refine lv_aload_n hx_ hb_ dX1_insert_0 rfl (lv_at hl_ 0 rfl) ?_
  refine va_get (D := G_) (ci := 1) (v := .int (iI ((k_ : Nat) : Int))) (C := RX1) (T := TX1) (N := 4) hx_ hb_ hts hi1_ hown hK_ hP_ 0 rfl rfl 3 (by decide) hf21_ (fun _ h9 => h9) rfl dX1_insert_1 ?_
  refine lv_bipush (v := iI ((48 : Nat) : Int)) hx_ hb_ dX1_insert_4 rfl ?_
  refine q_icmp_lt (tgt := 10) hx_ hb_ dX1_insert_6 (by decide) (⟨by omega, by omega⟩) (⟨by decide, by decide⟩) (fun c6_ => ?_) (fun c6_ => absurd c6_ (by omega))
  refine lv_aload_n hx_ hb_ dX1_insert_10 rfl (lv_at hl_ 0 rfl) ?_
  refine va_get (D := G_) (ci := 1) (v := .int (iI ((k_ : Nat) : Int))) (C := RX1) (T := TX1) (N := 4) hx_ hb_ hts hi1_ hown hK_ hP_ 0 rfl rfl 3 (by decide) hf21_ (fun _ h9 => h9) rfl dX1_insert_11 ?_
  refine lv_istore (lv' := [(4, .int (iI ((k_ : Nat) : Int))), (0, .ref h_), (1, .int (iI ((x_ : Nat) : Int))), (2, .int (iI ((y_ : Nat) : Int))), (3, .int (iI ((z_ : Nat) : Int)))]) hx_ hb_ dX1_insert_14 hl_ (by decide) rfl (fun ls_ hl_ => ?_)
  exact lp16 (k_ + 1) k_ _ _ ls_ (by omega) (by omega) (fun j_ h1_ h2_ => absurd h1_ (by omega)) (by rw [shf_self, shf_self, shf_self]; exact hP_) (by rw [shf_self, shf_self, shf_self]; exact hD_) hS_ (lv_sub hl_ [1, 2, 3, 4, 0] rfl)
end
section
/-! the copy order, as a function -/
theorem wI_R {r k : Nat} {s : Int} (hk : k ≤ 48) (hs : -20000 ≤ s ∧ s ≤ 0) : R32 (wI r k s) := by
  unfold wI; split
  · exact ⟨by omega, by omega⟩
  · exact ⟨by omega, by omega⟩
theorem wI_ne {r k : Nat} {s : Int} (h : ¬ wI r k s = s) : r < k := by
  by_cases hr : r < k
  · exact hr
  · exact absurd (if_neg hr) h
theorem wI_nlt {r k : Nat} {s : Int} (hs : s < 0) (h : wI r k s = s) : ¬ r < k := by
  intro hr; rw [wI_hit hr] at h; omega
theorem oV_R {o : Option Nat} {k : Nat} {s : Int} (hk : k ≤ 48) (hs : -20000 ≤ s ∧ s ≤ 0) (ho : ∀ g, o = some g → g < k) : R32 (oV s o) := by
  cases o with
  | none => exact ⟨by show -2147483648 ≤ s; omega, by show s < 2147483648; omega⟩
  | some g => exact ⟨by show -2147483648 ≤ (g : Int); omega, by have := ho g rfl; show (g : Int) < 2147483648; omega⟩
theorem fst_congr {p q : Nat → Bool} : ∀ {k : Nat}, (∀ i, i < k → p i = q i) → fst p k = fst q k
  | 0, _ => rfl
  | k + 1, h => by
    have e := fst_congr (k := k) (fun i hi => h i (by omega))
    unfold fst; rw [e, h k (by omega)]
theorem bst_congr {p q : Nat → Bool} {b c : Nat → Nat → Bool} : ∀ {k : Nat}, (∀ i, i < k → p i = q i) → (∀ i g, i < k → g < k → b i g = c i g) → bst p b k = bst q c k
  | 0, _, _ => rfl
  | k + 1, h, h2 => by
    have e := bst_congr (k := k) (fun i hi => h i (by omega)) (fun i g hi hg => h2 i g (by omega) (by omega))
    show (match bst p b k with | none => if p k = true then some k else none | some g => if p k = true ∧ b k g = true then some k else some g) = (match bst q c k with | none => if q k = true then some k else none | some g => if q k = true ∧ c k g = true then some k else some g)
    rw [e, h k (by omega)]
    cases hb : bst q c k with
    | none => rfl
    | some g =>
      have hg := (bst_lt hb).1
      show (if q k = true ∧ b k g = true then some k else some g) = (if q k = true ∧ c k g = true then some k else some g)
      rw [h2 k g (by omega) (by omega)]
def rdy (k : Nat) (os ns ln : Nat → Nat) (wt : Nat → Bool) (b : Nat) : Bool := decide (fst (fun o => wt o && mgb os ns ln o b) k = k)
def frd (k : Nat) (os ns ln : Nat → Nat) (wt : Nat → Bool) : Nat := fst (fun b => wt b && rdy k os ns ln wt b) k
def shw (k : Nat) (ln : Nat → Nat) (wt : Nat → Bool) : Option Nat := bst wt (fun i g => decide (ln i < ln g)) k
theorem rdy_no {k : Nat} {os ns ln : Nat → Nat} {wt : Nat → Bool} {b j : Nat} (hj : j < k) (h1 : wt j = true) (h2 : mgb os ns ln j b = true) : rdy k os ns ln wt b = false := by
  obtain ⟨q1, q2, q3⟩ := fst_spec (fun o => wt o && mgb os ns ln o b) k
  refine decide_eq_false (fun he => ?_)
  have := q3 j (by omega)
  simp [h1, h2] at this
theorem rdy_yes {k : Nat} {os ns ln : Nat → Nat} {wt : Nat → Bool} {b : Nat} (h : ∀ j, j < k → (wt j && mgb os ns ln j b) = false) : rdy k os ns ln wt b = true := decide_eq_true (fst_none h)
abbrev oS : Type := (Nat → Nat) × (Nat → Nat) × Nat
def wtf (st : Nat → Nat) : Nat → Bool := fun b => decide (st b = 0)
def stp (k : Nat) (os ns ln : Nat → Nat) (X : oS) : oS :=
  if frd k os ns ln (wtf X.1) < k then (va_up X.1 (frd k os ns ln (wtf X.1)) 1, va_up X.2.1 X.2.2 (frd k os ns ln (wtf X.1)), X.2.2 + 1)
  else match shw k ln (wtf X.1) with
    | none => X
    | some g => (va_up X.1 g 2, X.2.1, X.2.2)
def its (k : Nat) (os ns ln : Nat → Nat) : Nat → oS
  | 0 => (fun _ => 0, fun _ => 0, 0)
  | r + 1 => stp k os ns ln (its k os ns ln r)
def cnt (p : Nat → Bool) : Nat → Nat
  | 0 => 0
  | n + 1 => cnt p n + (if p n = true then 1 else 0)
theorem cnt_congr {p q : Nat → Bool} : ∀ {n : Nat}, (∀ i, i < n → p i = q i) → cnt p n = cnt q n
  | 0, _ => rfl
  | n + 1, h => by unfold cnt; rw [cnt_congr (fun i hi => h i (by omega)), h n (by omega)]
theorem cnt_one {p q : Nat → Bool} {a : Nat} : ∀ {n : Nat}, (∀ i, i < n → i ≠ a → q i = p i) → cnt q n ≤ cnt p n + 1
  | 0, _ => by simp [cnt]
  | n + 1, h => by
    unfold cnt
    by_cases ha : n = a
    · have e : cnt q n = cnt p n := cnt_congr (fun i hi => h i (by omega) (by omega))
      rw [e]
      split <;> split <;> omega
    · have e := cnt_one (a := a) (n := n) (fun i hi hia => h i (by omega) hia)
      rw [h n (by omega) ha]
      omega
theorem cnt_le (p : Nat → Bool) : ∀ n, cnt p n ≤ n
  | 0 => Nat.le_refl _
  | n + 1 => by
    have := cnt_le p n
    unfold cnt; split <;> omega
theorem cnt_ex {p : Nat → Bool} : ∀ {n : Nat}, cnt p n < n → ∃ i, i < n ∧ p i = false
  | 0, h => absurd h (Nat.not_lt_zero _)
  | n + 1, h => by
    by_cases hp : p n = true
    · have h2 : cnt p n < n := by unfold cnt at h; rw [if_pos hp] at h; omega
      obtain ⟨i, h3, h4⟩ := cnt_ex h2
      exact ⟨i, by omega, h4⟩
    · exact ⟨n, by omega, by simpa using hp⟩
theorem its_ok (k : Nat) (os ns ln : Nat → Nat) : ∀ r, (its k os ns ln r).2.2 ≤ r ∧ (∀ j, j < (its k os ns ln r).2.2 → (its k os ns ln r).2.1 j < k) ∧ cnt (fun b => decide (¬ (its k os ns ln r).1 b = 0)) k ≤ r
  | 0 => ⟨Nat.le_refl _, fun j hj => absurd hj (Nat.not_lt_zero _), by
      have e : cnt (fun b => decide (¬ (its k os ns ln 0).1 b = 0)) k = cnt (fun _ => false) k := cnt_congr (fun i _ => by simp [its])
      rw [e]
      have : ∀ n, cnt (fun _ => false) n = 0 := by
        intro n; induction n with
        | zero => rfl
        | succ n ih => unfold cnt; rw [ih]; rfl
      rw [this]; exact Nat.le_refl _⟩
  | r + 1 => by
    obtain ⟨h1, h2, h3⟩ := its_ok k os ns ln r
    have key : ∀ (a v : Nat), cnt (fun b => decide (¬ va_up (its k os ns ln r).1 a v b = 0)) k ≤ r + 1 := fun a v => by
      have := cnt_one (a := a) (n := k) (p := fun b => decide (¬ (its k os ns ln r).1 b = 0)) (q := fun b => decide (¬ va_up (its k os ns ln r).1 a v b = 0)) (fun i _ hia => by simp [va_up, hia])
      omega
    show (stp k os ns ln (its k os ns ln r)).2.2 ≤ r + 1 ∧ (∀ j, j < (stp k os ns ln (its k os ns ln r)).2.2 → (stp k os ns ln (its k os ns ln r)).2.1 j < k) ∧ cnt (fun b => decide (¬ (stp k os ns ln (its k os ns ln r)).1 b = 0)) k ≤ r + 1
    unfold stp
    by_cases hf : frd k os ns ln (wtf (its k os ns ln r).1) < k
    · rw [if_pos hf]
      refine ⟨by show _ + 1 ≤ _ + 1; omega, fun j hj => ?_, key _ _⟩
      show va_up _ _ _ j < k
      unfold va_up
      split
      · exact hf
      · have hj : j < (its k os ns ln r).2.2 + 1 := hj
        exact h2 j (by omega)
    · rw [if_neg hf]
      cases hs : shw k ln (wtf (its k os ns ln r).1) with
      | none => exact ⟨by show (its k os ns ln r).2.2 ≤ r + 1; omega, h2, by show cnt (fun b => decide (¬ (its k os ns ln r).1 b = 0)) k ≤ r + 1; omega⟩
      | some g => exact ⟨by show (its k os ns ln r).2.2 ≤ r + 1; omega, h2, key _ _⟩
/-- a block waits still -/
theorem its_wait (k : Nat) (os ns ln : Nat → Nat) {r : Nat} (hr : r < k) : ∃ b, b < k ∧ (its k os ns ln r).1 b = 0 := by
  obtain ⟨i, h1, h2⟩ := cnt_ex (Nat.lt_of_le_of_lt (its_ok k os ns ln r).2.2 hr)
  exact ⟨i, h1, by simpa using h2⟩
theorem frd_congr {k : Nat} {os ns ln : Nat → Nat} {w w' : Nat → Bool} (h : ∀ b, b < k → w b = w' b) : frd k os ns ln w = frd k os ns ln w' := by
  unfold frd
  refine fst_congr (fun i hi => ?_)
  have : rdy k os ns ln w i = rdy k os ns ln w' i := by
    unfold rdy
    rw [fst_congr (p := fun o => w o && mgb os ns ln o i) (q := fun o => w' o && mgb os ns ln o i) (fun j hj => by rw [h j hj])]
  rw [h i hi, this]
theorem shw_congr {k : Nat} {ln : Nat → Nat} {w w' : Nat → Bool} (h : ∀ b, b < k → w b = w' b) : shw k ln w = shw k ln w' := bst_congr h (fun _ _ _ _ => rfl)
theorem frd_wt {k : Nat} {os ns ln : Nat → Nat} {w : Nat → Bool} (h : frd k os ns ln w < k) : w (frd k os ns ln w) = true := by
  have := (fst_spec (fun b => w b && rdy k os ns ln w b) k).1 h
  have h2 : (w (frd k os ns ln w) && rdy k os ns ln w (frd k os ns ln w)) = true := this
  simp at h2; exact h2.1
theorem shw_some {k : Nat} {os ns ln : Nat → Nat} {w : Nat → Bool} {r : Nat} (hr : r < k) (h : ∀ b, b < k → w b = wtf (its k os ns ln r).1 b) : ∃ g, shw k ln w = some g := by
  obtain ⟨b, h1, h2⟩ := its_wait k os ns ln hr
  cases hs : shw k ln w with
  | some g => exact ⟨g, rfl⟩
  | none =>
    have := bst_none hs b h1
    rw [h b h1] at this
    simp [wtf, h2] at this
/-- the class's rows against the function, behind r turns -/
def CoR (k : Nat) (os ns ln : Nat → Nat) (r : Nat) (wt dr : Nat → Bool) (od : Nat → Nat) (sp : Nat) : Prop :=
  (∀ b, b < k → wt b = wtf (its k os ns ln r).1 b) ∧ (∀ b, b < k → dr b = decide ((its k os ns ln r).1 b = 2)) ∧ (∀ j, j < sp → od j = (its k os ns ln r).2.1 j) ∧ sp = (its k os ns ln r).2.2
theorem CoR_copy {k : Nat} {os ns ln : Nat → Nat} {r : Nat} {wt dr : Nat → Bool} {od : Nat → Nat} {sp : Nat} (h : CoR k os ns ln r wt dr od sp) (hf : frd k os ns ln wt < k) : CoR k os ns ln (r + 1) (va_up wt (frd k os ns ln wt) false) dr (va_up od sp (frd k os ns ln wt)) (sp + 1) := by
  obtain ⟨h1, h2, h3, h4⟩ := h
  have e := frd_congr (os := os) (ns := ns) (ln := ln) h1
  have hf2 := hf
  rw [e] at hf2
  have es : its k os ns ln (r + 1) = (va_up (its k os ns ln r).1 (frd k os ns ln wt) 1, va_up (its k os ns ln r).2.1 (its k os ns ln r).2.2 (frd k os ns ln wt), (its k os ns ln r).2.2 + 1) := by
    show stp k os ns ln (its k os ns ln r) = _
    unfold stp
    rw [if_pos hf2, ← e]
  have hw := frd_wt hf
  have hz : (its k os ns ln r).1 (frd k os ns ln wt) = 0 := by
    have := h1 _ hf
    rw [hw] at this
    simpa [wtf] using this.symm
  unfold CoR
  rw [es]
  refine ⟨fun b hb => ?_, fun b hb => ?_, fun j hj => ?_, by rw [h4]⟩
  · show va_up wt (frd k os ns ln wt) false b = wtf (va_up (its k os ns ln r).1 (frd k os ns ln wt) 1) b
    by_cases hbf : b = frd k os ns ln wt
    · simp [va_up, wtf, hbf]
    · have := h1 b hb
      simp only [wtf] at this
      simp [va_up, wtf, hbf, this]
  · show dr b = decide (va_up (its k os ns ln r).1 (frd k os ns ln wt) 1 b = 2)
    by_cases hbf : b = frd k os ns ln wt
    · rw [h2 b hb, hbf]; simp [va_up, hz]
    · rw [h2 b hb]; simp [va_up, hbf]
  · show va_up od sp (frd k os ns ln wt) j = va_up (its k os ns ln r).2.1 (its k os ns ln r).2.2 (frd k os ns ln wt) j
    rw [← h4]
    by_cases hjs : j = sp
    · simp [va_up, hjs]
    · simp only [va_up, if_neg hjs]; exact h3 j (by omega)
theorem CoR_drop {k : Nat} {os ns ln : Nat → Nat} {r g : Nat} {wt dr : Nat → Bool} {od : Nat → Nat} {sp : Nat} (h : CoR k os ns ln r wt dr od sp) (hf : ¬ frd k os ns ln wt < k) (hg : shw k ln wt = some g) : CoR k os ns ln (r + 1) (va_up wt g false) (va_up dr g true) od sp := by
  obtain ⟨h1, h2, h3, h4⟩ := h
  rw [frd_congr (os := os) (ns := ns) (ln := ln) h1] at hf
  rw [shw_congr h1] at hg
  have es : its k os ns ln (r + 1) = (va_up (its k os ns ln r).1 g 2, (its k os ns ln r).2.1, (its k os ns ln r).2.2) := by
    show stp k os ns ln (its k os ns ln r) = _
    unfold stp
    rw [if_neg hf, hg]
  unfold CoR
  rw [es]
  refine ⟨fun b hb => ?_, fun b hb => ?_, h3, h4⟩
  · show va_up wt g false b = wtf (va_up (its k os ns ln r).1 g 2) b
    by_cases hbf : b = g
    · simp [va_up, wtf, hbf]
    · have := h1 b hb
      simp only [wtf] at this
      simp [va_up, wtf, hbf, this]
  · show va_up dr g true b = decide (va_up (its k os ns ln r).1 g 2 b = 2)
    by_cases hbf : b = g
    · simp [va_up, hbf]
    · rw [show va_up dr g true b = dr b from if_neg hbf, h2 b hb]; simp [va_up, hbf]
/-- where the value at x after s steps stood at first -/
def org (od os ns ln : Nat → Nat) : Nat → Int → Int
  | 0, x => x
  | s + 1, x => org od os ns ln s (if cv ns ln x (od s) = true then x - ((ns (od s) : Nat) : Int) + ((os (od s) : Nat) : Int) else x)
theorem org_congr {od od' os ns ln : Nat → Nat} : ∀ {s : Nat} {x : Int}, (∀ j, j < s → od j = od' j) → org od os ns ln s x = org od' os ns ln s x
  | 0, _, _ => rfl
  | s + 1, x, h => by
    unfold org
    rw [h s (by omega)]
    exact org_congr (fun j hj => h j (by omega))
end
section
set_option maxHeartbeats 4000000 in
set_option maxRecDepth 100000 in
/-- CopyOrder.steps -/
theorem c_X2_steps (l_ : Launch) (G_ : va_G) (cI cZ : ClassId) (h_ a_ b_ d_ : Nat) (od_ : Nat → Nat) (wt_ dr_ : Nat → Bool) (sp_ : Nat) : Ro l_ yX2_steps wsX2_steps ({ frames := 0, cells := 0, slots := 0, locals := 0 }) G_ cI cZ [.ref h_] (wCo cI cZ h_ a_ b_ d_ od_ wt_ dr_ sp_) ((sp_ : Nat) : Int) := by
  refine Met.ofW (cc := cX2_steps) (maxL := 1) (ret := (some .int)) (by decide) rfl ?_
  intro p_ e_ s_ m_ args below meth c_ s₁ B hml hv
  obtain ⟨hargs, hP_, hK_⟩ := hv
  have hx_ := B.exec
  have hb_ := B.bytes
  have hr := B.returns
  have hts := atoms_spec (ws := wsX2_steps) B.pre
  have hown : s_.vm.findClass RX2 = some m_.cls := findClass_of_methodNamed B.named
  have hlocks := B.notSynchronized
  have hi2_ : ∀ w_ ∈ wsX20, w_ ∈ wsX2_steps := by decide +kernel
  have hf22_ := hts (.fieldLink RX2 22 "RelocatingPatch$CopyOrder" "steps" "I") (by decide +kernel)
  have hP_ : va_P G_ vwCl [(h_, .inr (2, [.ref a_, .ref b_, .ref d_, .int (iI ((sp_ : Nat) : Int))])), (a_, .inl (cI, 48, .inl (aN od_))), (b_, .inl (cZ, 48, .inl (aB wt_))), (d_, .inl (cZ, 48, .inl (aB dr_)))] s_.heap := hP_
  generalize hQe : MQ below (vp_Si (fun r_ => r_ = iI ((sp_ : Nat) : Int))) args s_ 0 0 (fun _ => False) = Q_
  rw [show entryFrame m_ args 1 = entryFrame m_ ([.ref h_] : List Value).toArray 1 from by rw [hargs], lg_entry_eq]
  have hl_ := lv_entry ([.ref h_]) (n := 1) (Nat.le_of_ble_eq_true rfl)
  generalize (lg_sl ([.ref h_]) ++ List.replicate (1 - (lg_sl ([.ref h_])).length) Slot.unset).toArray = ls_ at hl_ ⊢
  have hl_ : lv_has ls_ 1 [(0, .ref h_)] := hl_
  refine lv_aload_n hx_ hb_ dX2_steps_0 rfl (lv_at hl_ 0 rfl) ?_
  refine va_get (D := G_) (ci := 2) (v := .int (iI ((sp_ : Nat) : Int))) (C := RX2) (T := TX2) (N := 4) hx_ hb_ hts hi2_ hown hK_ hP_ 0 rfl rfl 3 (by decide) hf22_ (fun _ h9 => h9) rfl dX2_steps_1 ?_
  rw [← hQe]
  exact W.iret hx_ hb_ hr (fun tt1 htt1 hWW1 => ⟨_, rfl, congrArg iI (by first | rfl | omega), htt1⟩) (fun q_ h_ => absurd h_ List.not_mem_nil) dX2_steps_4

set_option maxHeartbeats 4000000 in
set_option maxRecDepth 100000 in
/-- CopyOrder.hasStep -/
theorem c_X2_hasStep (l_ : Launch) (G_ : va_G) (cI cZ : ClassId) (h_ a_ b_ d_ : Nat) (od_ : Nat → Nat) (wt_ dr_ : Nat → Bool) (sp_ : Nat) (x_ : Int) (hs_ : sp_ ≤ 48) (hx1 : -2147483648 ≤ x_) (hx2 : x_ < 2147483648) : Ro l_ yX2_hasStep wsX2_hasStep ({ frames := 0, cells := 0, slots := 0, locals := 0 }) G_ cI cZ [.ref h_, .int (iI (x_))] (wCo cI cZ h_ a_ b_ d_ od_ wt_ dr_ sp_) (bZ (decide (0 ≤ x_ ∧ x_ < ((sp_ : Nat) : Int)))) := by
  refine Met.ofW (cc := cX2_hasStep) (maxL := 2) (ret := (some .boolean)) (by decide) rfl ?_
  intro p_ e_ s_ m_ args below meth c_ s₁ B hml hv
  obtain ⟨hargs, hP_, hK_⟩ := hv
  have hx_ := B.exec
  have hb_ := B.bytes
  have hr := B.returns
  have hts := atoms_spec (ws := wsX2_hasStep) B.pre
  have hown : s_.vm.findClass RX2 = some m_.cls := findClass_of_methodNamed B.named
  have hlocks := B.notSynchronized
  have hi2_ : ∀ w_ ∈ wsX20, w_ ∈ wsX2_hasStep := by decide +kernel
  have hf22_ := hts (.fieldLink RX2 22 "RelocatingPatch$CopyOrder" "steps" "I") (by decide +kernel)
  have hP_ : va_P G_ vwCl [(h_, .inr (2, [.ref a_, .ref b_, .ref d_, .int (iI ((sp_ : Nat) : Int))])), (a_, .inl (cI, 48, .inl (aN od_))), (b_, .inl (cZ, 48, .inl (aB wt_))), (d_, .inl (cZ, 48, .inl (aB dr_)))] s_.heap := hP_
  generalize hQe : MQ below (vp_Si (fun r_ => r_ = iI (bZ (decide (0 ≤ x_ ∧ x_ < ((sp_ : Nat) : Int)))))) args s_ 0 0 (fun _ => False) = Q_
  rw [show entryFrame m_ args 2 = entryFrame m_ ([.ref h_, .int (iI (x_))] : List Value).toArray 2 from by rw [hargs], lg_entry_eq]
  have hl_ := lv_entry ([.ref h_, .int (iI (x_))]) (n := 2) (Nat.le_of_ble_eq_true rfl)
  generalize (lg_sl ([.ref h_, .int (iI (x_))]) ++ List.replicate (2 - (lg_sl ([.ref h_, .int (iI (x_))])).length) Slot.unset).toArray = ls_ at hl_ ⊢
  have hl_ : lv_has ls_ 2 [(0, .ref h_), (1, .int (iI (x_)))] := hl_
  refine lv_iload_n hx_ hb_ dX2_hasStep_0 rfl (lv_at hl_ 1 rfl) ?_
  refine q_if_lt (tgt := 16) hx_ hb_ dX2_hasStep_1 (by decide) (⟨by omega, by omega⟩) (fun c1_ => ?_) (fun c1_ => ?_)
  · skip
    refine lv_iconst (v := iI ((0 : Nat) : Int)) hx_ hb_ dX2_hasStep_16 rfl ?_
    rw [← hQe]
    refine q_cast (b := bZ false) rfl ?_
    exact W.zret (v := _) hx_ hb_ hr (nar_bZ _) (fun tt1 htt1 hWW1 => ⟨_, rfl, congrArg iI (congrArg bZ (decide_eq_false (by omega)).symm), htt1⟩) (fun q_ h_ => absurd h_ List.not_mem_nil) dX2_hasStep_17
  · skip
    refine lv_iload_n hx_ hb_ dX2_hasStep_4 rfl (lv_at hl_ 1 rfl) ?_
    refine lv_aload_n hx_ hb_ dX2_hasStep_5 rfl (lv_at hl_ 0 rfl) ?_
    refine va_get (D := G_) (ci := 2) (v := .int (iI ((sp_ : Nat) : Int))) (C := RX2) (T := TX2) (N := 4) hx_ hb_ hts hi2_ hown hK_ hP_ 0 rfl rfl 3 (by decide) hf22_ (fun _ h9 => h9) rfl dX2_hasStep_6 ?_
    refine q_icmp_ge (tgt := 16) hx_ hb_ dX2_hasStep_9 (by decide) (⟨by omega, by omega⟩) (⟨by omega, by omega⟩) (fun c9_ => ?_) (fun c9_ => ?_)
    · skip
      refine lv_iconst (v := iI ((0 : Nat) : Int)) hx_ hb_ dX2_hasStep_16 rfl ?_
      rw [← hQe]
      refine q_cast (b := bZ false) rfl ?_
      exact W.zret (v := _) hx_ hb_ hr (nar_bZ _) (fun tt1 htt1 hWW1 => ⟨_, rfl, congrArg iI (congrArg bZ (decide_eq_false (by omega)).symm), htt1⟩) (fun q_ h_ => absurd h_ List.not_mem_nil) dX2_hasStep_17
    · skip
      refine lv_iconst (v := iI ((1 : Nat) : Int)) hx_ hb_ dX2_hasStep_12 rfl ?_
      refine lv_goto (tgt := 17) hx_ hb_ dX2_hasStep_13 (by decide) ?_
      rw [← hQe]
      refine q_cast (b := bZ true) rfl ?_
      exact W.zret (v := _) hx_ hb_ hr (nar_bZ _) (fun tt1 htt1 hWW1 => ⟨_, rfl, congrArg iI (congrArg bZ (decide_eq_true (by omega)).symm), htt1⟩) (fun q_ h_ => absurd h_ List.not_mem_nil) dX2_hasStep_17

set_option maxHeartbeats 4000000 in
set_option maxRecDepth 100000 in
/-- CopyOrder.blockOfStep -/
theorem c_X2_blockOfStep (l_ : Launch) (G_ : va_G) (cI cZ : ClassId) (h_ a_ b_ d_ : Nat) (od_ : Nat → Nat) (wt_ dr_ : Nat → Bool) (sp_ : Nat) (j_ : Nat) (hs_ : sp_ ≤ 48) (hj_ : j_ < sp_) : Ro l_ yX2_blockOfStep wsX2_blockOfStep ({ frames := 1, cells := 0, slots := 0, locals := 21 }) G_ cI cZ [.ref h_, .int (iI ((j_ : Nat) : Int))] (wCo cI cZ h_ a_ b_ d_ od_ wt_ dr_ sp_) ((od_ j_ : Nat) : Int) := by
  refine Met.ofW (cc := cX2_blockOfStep) (maxL := 2) (ret := (some .int)) (by decide) rfl ?_
  intro p_ e_ s_ m_ args below meth c_ s₁ B hml hv
  obtain ⟨hargs, hP_, hK_⟩ := hv
  have hx_ := B.exec
  have hb_ := B.bytes
  have hr := B.returns
  have hts := atoms_spec (ws := wsX2_blockOfStep) B.pre
  have hown : s_.vm.findClass RX2 = some m_.cls := findClass_of_methodNamed B.named
  have hlocks := B.notSynchronized
  have hi2_ : ∀ w_ ∈ wsX20, w_ ∈ wsX2_blockOfStep := by decide +kernel
  have hf9_ := hts (.fieldLink RX2 9 "RelocatingPatch$CopyOrder" "order" "[I") (by decide +kernel)
  have hP_ : va_P G_ vwCl [(h_, .inr (2, [.ref a_, .ref b_, .ref d_, .int (iI ((sp_ : Nat) : Int))])), (a_, .inl (cI, 48, .inl (aN od_))), (b_, .inl (cZ, 48, .inl (aB wt_))), (d_, .inl (cZ, 48, .inl (aB dr_)))] s_.heap := hP_
  generalize hQe : MQ below (vp_Si (fun r_ => r_ = iI ((od_ j_ : Nat) : Int))) args s_ 0 0 (fun _ => False) = Q_
  rw [show entryFrame m_ args 2 = entryFrame m_ ([.ref h_, .int (iI ((j_ : Nat) : Int))] : List Value).toArray 2 from by rw [hargs], lg_entry_eq]
  have hl_ := lv_entry ([.ref h_, .int (iI ((j_ : Nat) : Int))]) (n := 2) (Nat.le_of_ble_eq_true rfl)
  generalize (lg_sl ([.ref h_, .int (iI ((j_ : Nat) : Int))]) ++ List.replicate (2 - (lg_sl ([.ref h_, .int (iI ((j_ : Nat) : Int))])).length) Slot.unset).toArray = ls_ at hl_ ⊢
  have hl_ : lv_has ls_ 2 [(0, .ref h_), (1, .int (iI ((j_ : Nat) : Int)))] := hl_
  refine lv_aload_n hx_ hb_ dX2_blockOfStep_0 rfl (lv_at hl_ 0 rfl) ?_
  refine lv_iload_n hx_ hb_ dX2_blockOfStep_1 rfl (lv_at hl_ 1 rfl) ?_
  refine ro_V (As := [.int (iI ((j_ : Nat) : Int))]) (rest := []) ⟨hx_, hb_, hml, hown, hts⟩ (c_X2_hasStep l_ G_ cI cZ h_ a_ b_ d_ od_ wt_ dr_ sp_ ((j_ : Nat) : Int) (by omega) (by omega) (by omega)) (cwV 1 hts gX2_blockOfStep_X2_hasStep rfl rfl rfl (by decide +kernel) ⟨Nat.le_of_ble_eq_true rfl, Nat.le_of_ble_eq_true rfl⟩) (hP_.sub (ws' := [(h_, .inr (2, [.ref a_, .ref b_, .ref d_, .int (iI ((sp_ : Nat) : Int))])), (a_, .inl (cI, 48, .inl (aN od_))), (b_, .inl (cZ, 48, .inl (aB wt_))), (d_, .inl (cZ, 48, .inl (aB dr_)))]) [0, 1, 2, 3] rfl) hK_ 0 rfl rfl rfl hl_.1 rfl (Nat.le_of_ble_eq_true rfl) dX2_blockOfStep_2 ⟨Nat.zero_le _, Nat.zero_le _⟩ ?_
  refine q_df (tgt := 17) hx_ hb_ dX2_blockOfStep_5 (by decide) (fun c5_ => absurd c5_ (by omega)) (fun c5_ => ?_)
  refine lv_aload_n hx_ hb_ dX2_blockOfStep_8 rfl (lv_at hl_ 0 rfl) ?_
  refine va_get (D := G_) (ci := 2) (v := .ref a_) (C := RX2) (T := TX2) (N := 4) hx_ hb_ hts hi2_ hown hK_ hP_ 0 rfl rfl 0 (by decide) hf9_ (fun _ h9 => h9) rfl dX2_blockOfStep_9 ?_
  refine lv_iload_n hx_ hb_ dX2_blockOfStep_12 rfl (lv_at hl_ 1 rfl) ?_
  refine q_ildN hx_ hb_ hK_ hP_ 1 rfl (by decide) (j_) (by omega) (od_ j_) (rfl) dX2_blockOfStep_13 ?_
  refine lv_goto (tgt := 18) hx_ hb_ dX2_blockOfStep_14 (by decide) ?_
  rw [← hQe]
  exact W.iret hx_ hb_ hr (fun tt1 htt1 hWW1 => ⟨_, rfl, congrArg iI (by first | rfl | omega), htt1⟩) (fun q_ h_ => absurd h_ List.not_mem_nil) dX2_blockOfStep_18

set_option maxHeartbeats 4000000 in
set_option maxRecDepth 100000 in
/-- CopyOrder.drops -/
theorem c_X2_drops (l_ : Launch) (G_ : va_G) (cI cZ : ClassId) (h_ a_ b_ d_ : Nat) (od_ : Nat → Nat) (wt_ dr_ : Nat → Bool) (sp_ : Nat) (j_ : Nat) (hj_ : j_ < 48) : Ro l_ yX2_drops wsX2_drops ({ frames := 0, cells := 0, slots := 0, locals := 0 }) G_ cI cZ [.ref h_, .int (iI ((j_ : Nat) : Int))] (wCo cI cZ h_ a_ b_ d_ od_ wt_ dr_ sp_) (bZ (dr_ j_)) := by
  refine Met.ofW (cc := cX2_drops) (maxL := 2) (ret := (some .boolean)) (by decide) rfl ?_
  intro p_ e_ s_ m_ args below meth c_ s₁ B hml hv
  obtain ⟨hargs, hP_, hK_⟩ := hv
  have hx_ := B.exec
  have hb_ := B.bytes
  have hr := B.returns
  have hts := atoms_spec (ws := wsX2_drops) B.pre
  have hown : s_.vm.findClass RX2 = some m_.cls := findClass_of_methodNamed B.named
  have hlocks := B.notSynchronized
  have hi2_ : ∀ w_ ∈ wsX20, w_ ∈ wsX2_drops := by decide +kernel
  have hf19_ := hts (.fieldLink RX2 19 "RelocatingPatch$CopyOrder" "dropped" "[Z") (by decide +kernel)
  have hP_ : va_P G_ vwCl [(h_, .inr (2, [.ref a_, .ref b_, .ref d_, .int (iI ((sp_ : Nat) : Int))])), (a_, .inl (cI, 48, .inl (aN od_))), (b_, .inl (cZ, 48, .inl (aB wt_))), (d_, .inl (cZ, 48, .inl (aB dr_)))] s_.heap := hP_
  generalize hQe : MQ below (vp_Si (fun r_ => r_ = iI (bZ (dr_ j_)))) args s_ 0 0 (fun _ => False) = Q_
  rw [show entryFrame m_ args 2 = entryFrame m_ ([.ref h_, .int (iI ((j_ : Nat) : Int))] : List Value).toArray 2 from by rw [hargs], lg_entry_eq]
  have hl_ := lv_entry ([.ref h_, .int (iI ((j_ : Nat) : Int))]) (n := 2) (Nat.le_of_ble_eq_true rfl)
  generalize (lg_sl ([.ref h_, .int (iI ((j_ : Nat) : Int))]) ++ List.replicate (2 - (lg_sl ([.ref h_, .int (iI ((j_ : Nat) : Int))])).length) Slot.unset).toArray = ls_ at hl_ ⊢
  have hl_ : lv_has ls_ 2 [(0, .ref h_), (1, .int (iI ((j_ : Nat) : Int)))] := hl_
  refine lv_iload_n hx_ hb_ dX2_drops_0 rfl (lv_at hl_ 1 rfl) ?_
  refine q_if_lt (tgt := 23) hx_ hb_ dX2_drops_1 (by decide) (⟨by omega, by omega⟩) (fun c1_ => absurd c1_ (by omega)) (fun c1_ => ?_)
  refine lv_iload_n hx_ hb_ dX2_drops_4 rfl (lv_at hl_ 1 rfl) ?_
  refine lv_bipush (v := iI ((48 : Nat) : Int)) hx_ hb_ dX2_drops_5 rfl ?_
  refine q_icmp_ge (tgt := 23) hx_ hb_ dX2_drops_7 (by decide) (⟨by omega, by omega⟩) (⟨by decide, by decide⟩) (fun c7_ => absurd c7_ (by omega)) (fun c7_ => ?_)
  refine lv_aload_n hx_ hb_ dX2_drops_10 rfl (lv_at hl_ 0 rfl) ?_
  refine va_get (D := G_) (ci := 2) (v := .ref d_) (C := RX2) (T := TX2) (N := 4) hx_ hb_ hts hi2_ hown hK_ hP_ 0 rfl rfl 2 (by decide) hf19_ (fun _ h9 => h9) rfl dX2_drops_11 ?_
  refine lv_iload_n hx_ hb_ dX2_drops_14 rfl (lv_at hl_ 1 rfl) ?_
  refine q_zld hx_ hb_ hK_ hP_ 3 rfl (by decide) (j_) (by omega) (dr_ j_) (rfl) dX2_drops_15 ?_
  refine q_bf (tgt := 23) hx_ hb_ dX2_drops_16 (by decide) (fun c16_ => ?_) (fun c16_ => ?_)
  · skip
    refine lv_iconst (v := iI ((0 : Nat) : Int)) hx_ hb_ dX2_drops_23 rfl ?_
    rw [← hQe]
    refine q_cast (b := bZ false) rfl ?_
    exact W.zret (v := _) hx_ hb_ hr (nar_bZ _) (fun tt1 htt1 hWW1 => ⟨_, rfl, congrArg iI (congrArg bZ (c16_.symm)), htt1⟩) (fun q_ h_ => absurd h_ List.not_mem_nil) dX2_drops_24
  · skip
    refine lv_iconst (v := iI ((1 : Nat) : Int)) hx_ hb_ dX2_drops_19 rfl ?_
    refine lv_goto (tgt := 24) hx_ hb_ dX2_drops_20 (by decide) ?_
    rw [← hQe]
    refine q_cast (b := bZ true) rfl ?_
    exact W.zret (v := _) hx_ hb_ hr (nar_bZ _) (fun tt1 htt1 hWW1 => ⟨_, rfl, congrArg iI (congrArg bZ (c16_.symm)), htt1⟩) (fun q_ h_ => absurd h_ List.not_mem_nil) dX2_drops_24

set_option maxHeartbeats 4000000 in
set_option maxRecDepth 100000 in
/-- CopyOrder.waits -/
theorem c_X2_waits (l_ : Launch) (G_ : va_G) (cI cZ : ClassId) (h_ a_ b_ d_ : Nat) (od_ : Nat → Nat) (wt_ dr_ : Nat → Bool) (sp_ : Nat) (j_ : Nat) (hj_ : j_ < 48) : Ro l_ yX2_waits wsX2_waits ({ frames := 0, cells := 0, slots := 0, locals := 0 }) G_ cI cZ [.ref h_, .int (iI ((j_ : Nat) : Int))] (wCo cI cZ h_ a_ b_ d_ od_ wt_ dr_ sp_) (bZ (wt_ j_)) := by
  refine Met.ofW (cc := cX2_waits) (maxL := 2) (ret := (some .boolean)) (by decide) rfl ?_
  intro p_ e_ s_ m_ args below meth c_ s₁ B hml hv
  obtain ⟨hargs, hP_, hK_⟩ := hv
  have hx_ := B.exec
  have hb_ := B.bytes
  have hr := B.returns
  have hts := atoms_spec (ws := wsX2_waits) B.pre
  have hown : s_.vm.findClass RX2 = some m_.cls := findClass_of_methodNamed B.named
  have hlocks := B.notSynchronized
  have hi2_ : ∀ w_ ∈ wsX20, w_ ∈ wsX2_waits := by decide +kernel
  have hf15_ := hts (.fieldLink RX2 15 "RelocatingPatch$CopyOrder" "waiting" "[Z") (by decide +kernel)
  have hP_ : va_P G_ vwCl [(h_, .inr (2, [.ref a_, .ref b_, .ref d_, .int (iI ((sp_ : Nat) : Int))])), (a_, .inl (cI, 48, .inl (aN od_))), (b_, .inl (cZ, 48, .inl (aB wt_))), (d_, .inl (cZ, 48, .inl (aB dr_)))] s_.heap := hP_
  generalize hQe : MQ below (vp_Si (fun r_ => r_ = iI (bZ (wt_ j_)))) args s_ 0 0 (fun _ => False) = Q_
  rw [show entryFrame m_ args 2 = entryFrame m_ ([.ref h_, .int (iI ((j_ : Nat) : Int))] : List Value).toArray 2 from by rw [hargs], lg_entry_eq]
  have hl_ := lv_entry ([.ref h_, .int (iI ((j_ : Nat) : Int))]) (n := 2) (Nat.le_of_ble_eq_true rfl)
  generalize (lg_sl ([.ref h_, .int (iI ((j_ : Nat) : Int))]) ++ List.replicate (2 - (lg_sl ([.ref h_, .int (iI ((j_ : Nat) : Int))])).length) Slot.unset).toArray = ls_ at hl_ ⊢
  have hl_ : lv_has ls_ 2 [(0, .ref h_), (1, .int (iI ((j_ : Nat) : Int)))] := hl_
  refine lv_iload_n hx_ hb_ dX2_waits_0 rfl (lv_at hl_ 1 rfl) ?_
  refine q_if_lt (tgt := 23) hx_ hb_ dX2_waits_1 (by decide) (⟨by omega, by omega⟩) (fun c1_ => absurd c1_ (by omega)) (fun c1_ => ?_)
  refine lv_iload_n hx_ hb_ dX2_waits_4 rfl (lv_at hl_ 1 rfl) ?_
  refine lv_bipush (v := iI ((48 : Nat) : Int)) hx_ hb_ dX2_waits_5 rfl ?_
  refine q_icmp_ge (tgt := 23) hx_ hb_ dX2_waits_7 (by decide) (⟨by omega, by omega⟩) (⟨by decide, by decide⟩) (fun c7_ => absurd c7_ (by omega)) (fun c7_ => ?_)
  refine lv_aload_n hx_ hb_ dX2_waits_10 rfl (lv_at hl_ 0 rfl) ?_
  refine va_get (D := G_) (ci := 2) (v := .ref b_) (C := RX2) (T := TX2) (N := 4) hx_ hb_ hts hi2_ hown hK_ hP_ 0 rfl rfl 1 (by decide) hf15_ (fun _ h9 => h9) rfl dX2_waits_11 ?_
  refine lv_iload_n hx_ hb_ dX2_waits_14 rfl (lv_at hl_ 1 rfl) ?_
  refine q_zld hx_ hb_ hK_ hP_ 2 rfl (by decide) (j_) (by omega) (wt_ j_) (rfl) dX2_waits_15 ?_
  refine q_bf (tgt := 23) hx_ hb_ dX2_waits_16 (by decide) (fun c16_ => ?_) (fun c16_ => ?_)
  · skip
    refine lv_iconst (v := iI ((0 : Nat) : Int)) hx_ hb_ dX2_waits_23 rfl ?_
    rw [← hQe]
    refine q_cast (b := bZ false) rfl ?_
    exact W.zret (v := _) hx_ hb_ hr (nar_bZ _) (fun tt1 htt1 hWW1 => ⟨_, rfl, congrArg iI (congrArg bZ (c16_.symm)), htt1⟩) (fun q_ h_ => absurd h_ List.not_mem_nil) dX2_waits_24
  · skip
    refine lv_iconst (v := iI ((1 : Nat) : Int)) hx_ hb_ dX2_waits_19 rfl ?_
    refine lv_goto (tgt := 24) hx_ hb_ dX2_waits_20 (by decide) ?_
    rw [← hQe]
    refine q_cast (b := bZ true) rfl ?_
    exact W.zret (v := _) hx_ hb_ hr (nar_bZ _) (fun tt1 htt1 hWW1 => ⟨_, rfl, congrArg iI (congrArg bZ (c16_.symm)), htt1⟩) (fun q_ h_ => absurd h_ List.not_mem_nil) dX2_waits_24

set_option maxHeartbeats 4000000 in
set_option maxRecDepth 100000 in
/-- CopyOrder.origin -/
theorem c_X2_origin (l_ : Launch) (G_ : va_G) (cI cZ : ClassId) (h_ a_ b_ d_ : Nat) (od_ : Nat → Nat) (wt_ dr_ : Nat → Bool) (sp_ : Nat) (h2_ a2_ b2_ d2_ : Nat) (k_ : Nat) (os_ ns_ ln_ : Nat → Nat) (q_ : Nat) (x_ : Int) (hk_ : k_ ≤ 48) (hB_ : B48 k_ os_ ns_ ln_) (hs_ : sp_ ≤ 48) (hq_ : q_ ≤ sp_) (hod : ∀ j_, j_ < q_ → od_ j_ < k_) (hx1 : 0 ≤ x_) (hx2 : x_ ≤ 96) : Ro l_ yX2_origin wsX2_origin ({ frames := 3, cells := 0, slots := 0, locals := 65 }) G_ cI cZ [.ref h_, .ref h2_, .int (iI ((q_ : Nat) : Int)), .int (iI (x_))] (wCo cI cZ h_ a_ b_ d_ od_ wt_ dr_ sp_ ++ wBl cI h2_ a2_ b2_ d2_ k_ os_ ns_ ln_) (org od_ os_ ns_ ln_ q_ x_) := by
  refine Met.ofW (cc := cX2_origin) (maxL := 7) (ret := (some .int)) (by decide) rfl ?_
  intro p_ e_ s_ m_ args below meth c_ s₁ B hml hv
  obtain ⟨hargs, hP_, hK_⟩ := hv
  have hx_ := B.exec
  have hb_ := B.bytes
  have hr := B.returns
  have hts := atoms_spec (ws := wsX2_origin) B.pre
  have hown : s_.vm.findClass RX2 = some m_.cls := findClass_of_methodNamed B.named
  have hlocks := B.notSynchronized
  have hP_ : va_P G_ vwCl [(h_, .inr (2, [.ref a_, .ref b_, .ref d_, .int (iI ((sp_ : Nat) : Int))])), (a_, .inl (cI, 48, .inl (aN od_))), (b_, .inl (cZ, 48, .inl (aB wt_))), (d_, .inl (cZ, 48, .inl (aB dr_))), (h2_, .inr (1, [.ref a2_, .ref b2_, .ref d2_, .int (iI ((k_ : Nat) : Int))])), (a2_, .inl (cI, 48, .inl (aN os_))), (b2_, .inl (cI, 48, .inl (aN ns_))), (d2_, .inl (cI, 48, .inl (aN ln_)))] s_.heap := hP_
  generalize hQe : MQ below (vp_Si (fun r_ => r_ = iI (org od_ os_ ns_ ln_ q_ x_))) args s_ 0 0 (fun _ => False) = Q_
  have lp8 : ∀ (n_ : Nat) (t_ : Nat) (y_ : Int) (ls_ : Array Slot), (t_ ≤ q_) → (0 ≤ y_) → (y_ ≤ 96) → (org od_ os_ ns_ ln_ t_ y_ = org od_ os_ ns_ ln_ q_ x_) → (t_ + 1 ≤ n_) → lv_has ls_ 7 [(0, .ref h_), (1, .ref h2_), (2, .int (iI ((q_ : Nat) : Int))), (3, .int (iI (x_))), (4, .int (iI (y_))), (5, .int (iI (((t_ : Nat) : Int) - ((1 : Nat) : Int))))] → W p_ l_ e_ (headSpec wsX2_origin ({ frames := 3, cells := 0, slots := 0, locals := 65 })).room s_ m_ args below meth c_ s_.heap [] 0 0 Q_ (F0 m_ 8 ls_ []) := by
    intro n_
    induction n_ with
    | zero =>
      intro t_ y_ ls_ ht_ hy1 hy2 ho_ hn_
      exact False.elim (by omega)
    | succ n_ ih_ =>
      intro t_ y_ ls_ ht_ hy1 hy2 ho_ hn_ hl_
      refine lv_iload hx_ hb_ dX2_origin_8 (lv_at hl_ 5 rfl) ?_
      refine q_if_lt (tgt := 48) hx_ hb_ dX2_origin_10 (by decide) (⟨by omega, by omega⟩) (fun c10_ => ?_) (fun c10_ => ?_)
      · skip
        refine lv_iload hx_ hb_ dX2_origin_48 (lv_at hl_ 4 rfl) ?_
        rw [← hQe]
        exact W.iret hx_ hb_ hr (fun tt1 htt1 hWW1 => ⟨_, rfl, congrArg iI (by have e0 : t_ = 0 := (by omega); rw [e0] at ho_; exact ho_), htt1⟩) (fun q_ h_ => absurd h_ List.not_mem_nil) dX2_origin_50
      · skip
        have fb1 := hod (t_ - 1) (by omega)
        have fb2 := hB_ (od_ (t_ - 1)) fb1
        refine lv_aload_n hx_ hb_ dX2_origin_13 rfl (lv_at hl_ 0 rfl) ?_
        refine lv_iload hx_ hb_ dX2_origin_14 (lv_at hl_ 5 rfl) ?_
        refine q_cast (b := ((t_ - 1 : Nat) : Int)) (by omega) ?_
        refine ro_V (As := [.int (iI ((t_ - 1 : Nat) : Int))]) (rest := []) ⟨hx_, hb_, hml, hown, hts⟩ (c_X2_blockOfStep l_ G_ cI cZ h_ a_ b_ d_ od_ wt_ dr_ sp_ (t_ - 1) (by omega) (by omega)) (cwV 1 hts gX2_origin_X2_blockOfStep rfl rfl rfl (by decide +kernel) ⟨Nat.le_of_ble_eq_true rfl, Nat.le_of_ble_eq_true rfl⟩) (hP_.sub (ws' := [(h_, .inr (2, [.ref a_, .ref b_, .ref d_, .int (iI ((sp_ : Nat) : Int))])), (a_, .inl (cI, 48, .inl (aN od_))), (b_, .inl (cZ, 48, .inl (aB wt_))), (d_, .inl (cZ, 48, .inl (aB dr_)))]) [0, 1, 2, 3] rfl) hK_ 0 rfl rfl rfl hl_.1 rfl (Nat.le_of_ble_eq_true rfl) dX2_origin_16 ⟨Nat.zero_le _, Nat.zero_le _⟩ ?_
        refine lv_istore (lv' := [(6, .int (iI ((od_ (t_ - 1) : Nat) : Int))), (0, .ref h_), (1, .ref h2_), (2, .int (iI ((q_ : Nat) : Int))), (3, .int (iI (x_))), (4, .int (iI (y_))), (5, .int (iI (((t_ : Nat) : Int) - ((1 : Nat) : Int))))]) hx_ hb_ dX2_origin_19 hl_ (by decide) rfl (fun ls_ hl_ => ?_)
        refine lv_aload_n hx_ hb_ dX2_origin_21 rfl (lv_at hl_ 2 rfl) ?_
        refine lv_iload hx_ hb_ dX2_origin_22 (lv_at hl_ 0 rfl) ?_
        refine lv_iload hx_ hb_ dX2_origin_24 (lv_at hl_ 5 rfl) ?_
        refine ro_V (As := [.int (iI ((od_ (t_ - 1) : Nat) : Int)), .int (iI (y_))]) (rest := []) ⟨hx_, hb_, hml, hown, hts⟩ (c_X1_covers l_ G_ cI cZ h2_ a2_ b2_ d2_ k_ os_ ns_ ln_ (od_ (t_ - 1)) (y_) (by omega) (fb1) (hB_) (by omega) (by omega)) (cwV 2 hts gX2_origin_X1_covers rfl rfl rfl (by decide +kernel) ⟨Nat.le_of_ble_eq_true rfl, Nat.le_of_ble_eq_true rfl⟩) (hP_.sub (ws' := [(h2_, .inr (1, [.ref a2_, .ref b2_, .ref d2_, .int (iI ((k_ : Nat) : Int))])), (a2_, .inl (cI, 48, .inl (aN os_))), (b2_, .inl (cI, 48, .inl (aN ns_))), (d2_, .inl (cI, 48, .inl (aN ln_)))]) [4, 5, 6, 7] rfl) hK_ 0 rfl rfl rfl hl_.1 rfl (Nat.le_of_ble_eq_true rfl) dX2_origin_26 ⟨Nat.zero_le _, Nat.zero_le _⟩ ?_
        refine q_bf (tgt := 42) hx_ hb_ dX2_origin_29 (by decide) (fun c29_ => ?_) (fun c29_ => ?_)
        · skip
          refine q_iinc (k := 6) (((t_ - 1 : Nat) : Int) - ((1 : Nat) : Int)) hx_ hb_ dX2_origin_42 hl_ rfl (by omega) (by decide) (lv' := [(5, .int (iI (((t_ - 1 : Nat) : Int) - ((1 : Nat) : Int)))), (6, .int (iI ((od_ (t_ - 1) : Nat) : Int))), (0, .ref h_), (1, .ref h2_), (2, .int (iI ((q_ : Nat) : Int))), (3, .int (iI (x_))), (4, .int (iI (y_)))]) rfl (fun ls_ hl_ => ?_)
          refine lv_goto (tgt := 8) hx_ hb_ dX2_origin_45 (by decide) ?_
          exact ih_ (t_ - 1) y_ ls_ (by omega) (hy1) (hy2) (by rw [← ho_]; conv => rhs; rw [show t_ = (t_ - 1) + 1 from by omega]; unfold org; rw [if_neg (by rw [c29_]; decide)]) (by omega) (lv_sub hl_ [2, 3, 4, 5, 6, 0] rfl)
        · skip
          refine lv_aload_n hx_ hb_ dX2_origin_32 rfl (lv_at hl_ 2 rfl) ?_
          refine lv_iload hx_ hb_ dX2_origin_33 (lv_at hl_ 0 rfl) ?_
          refine lv_iload hx_ hb_ dX2_origin_35 (lv_at hl_ 5 rfl) ?_
          refine ro_V (As := [.int (iI ((od_ (t_ - 1) : Nat) : Int)), .int (iI (y_))]) (rest := []) ⟨hx_, hb_, hml, hown, hts⟩ (c_X1_oldIndex l_ G_ cI cZ h2_ a2_ b2_ d2_ k_ os_ ns_ ln_ (od_ (t_ - 1)) (y_) (by omega) (fb1)) (cwV 2 hts gX2_origin_X1_oldIndex rfl rfl rfl (by decide +kernel) ⟨Nat.le_of_ble_eq_true rfl, Nat.le_of_ble_eq_true rfl⟩) (hP_.sub (ws' := [(h2_, .inr (1, [.ref a2_, .ref b2_, .ref d2_, .int (iI ((k_ : Nat) : Int))])), (a2_, .inl (cI, 48, .inl (aN os_))), (b2_, .inl (cI, 48, .inl (aN ns_))), (d2_, .inl (cI, 48, .inl (aN ln_)))]) [4, 5, 6, 7] rfl) hK_ 0 rfl rfl rfl hl_.1 rfl (Nat.le_of_ble_eq_true rfl) dX2_origin_37 ⟨Nat.zero_le _, Nat.zero_le _⟩ ?_
          refine lv_istore (lv' := [(4, .int (iI ((y_) - ((ns_ (od_ (t_ - 1)) : Nat) : Int) + ((os_ (od_ (t_ - 1)) : Nat) : Int)))), (6, .int (iI ((od_ (t_ - 1) : Nat) : Int))), (0, .ref h_), (1, .ref h2_), (2, .int (iI ((q_ : Nat) : Int))), (3, .int (iI (x_))), (5, .int (iI (((t_ : Nat) : Int) - ((1 : Nat) : Int))))]) hx_ hb_ dX2_origin_40 hl_ (by decide) rfl (fun ls_ hl_ => ?_)
          refine q_iinc (k := 6) (((t_ - 1 : Nat) : Int) - ((1 : Nat) : Int)) hx_ hb_ dX2_origin_42 hl_ rfl (by omega) (by decide) (lv' := [(5, .int (iI (((t_ - 1 : Nat) : Int) - ((1 : Nat) : Int)))), (4, .int (iI ((y_) - ((ns_ (od_ (t_ - 1)) : Nat) : Int) + ((os_ (od_ (t_ - 1)) : Nat) : Int)))), (6, .int (iI ((od_ (t_ - 1) : Nat) : Int))), (0, .ref h_), (1, .ref h2_), (2, .int (iI ((q_ : Nat) : Int))), (3, .int (iI (x_)))]) rfl (fun ls_ hl_ => ?_)
          refine lv_goto (tgt := 8) hx_ hb_ dX2_origin_45 (by decide) ?_
          exact ih_ (t_ - 1) (((y_) - ((ns_ (od_ (t_ - 1)) : Nat) : Int) + ((os_ (od_ (t_ - 1)) : Nat) : Int))) ls_ (by omega) (by have := of_decide_eq_true c29_; omega) (by have := of_decide_eq_true c29_; omega) (by rw [← ho_]; conv => rhs; rw [show t_ = (t_ - 1) + 1 from by omega]; unfold org; rw [if_pos c29_]) (by omega) (lv_sub hl_ [3, 4, 5, 6, 1, 0] rfl)
  rw [show entryFrame m_ args 7 = entryFrame m_ ([.ref h_, .ref h2_, .int (iI ((q_ : Nat) : Int)), .int (iI (x_))] : List Value).toArray 7 from by rw [hargs], lg_entry_eq]
  have hl_ := lv_entry ([.ref h_, .ref h2_, .int (iI ((q_ : Nat) : Int)), .int (iI (x_))]) (n := 7) (Nat.le_of_ble_eq_true rfl)
  generalize (lg_sl ([.ref h_, .ref h2_, .int (iI ((q_ : Nat) : Int)), .int (iI (x_))]) ++ List.replicate (7 - (lg_sl ([.ref h_, .ref h2_, .int (iI ((q_ : Nat) : Int)), .int (iI (x_))])).length) Slot.unset).toArray = ls_ at hl_ ⊢
  have hl_ : lv_has ls_ 7 [(0, .ref h_), (1, .ref h2_), (2, .int (iI ((q_ : Nat) : Int))), (3, .int (iI (x_)))] := hl_
  refine lv_iload_n hx_ hb_ dX2_origin_0 rfl (lv_at hl_ 3 rfl) ?_
  refine lv_istore (lv' := [(4, .int (iI (x_))), (0, .ref h_), (1, .ref h2_), (2, .int (iI ((q_ : Nat) : Int))), (3, .int (iI (x_)))]) hx_ hb_ dX2_origin_1 hl_ (by decide) rfl (fun ls_ hl_ => ?_)
  refine lv_iload_n hx_ hb_ dX2_origin_3 rfl (lv_at hl_ 3 rfl) ?_
  refine lv_iconst (v := iI ((1 : Nat) : Int)) hx_ hb_ dX2_origin_4 rfl ?_
  refine q_isub hx_ hb_ dX2_origin_5 ?_
  refine lv_istore (lv' := [(5, .int (iI (((q_ : Nat) : Int) - ((1 : Nat) : Int)))), (4, .int (iI (x_))), (0, .ref h_), (1, .ref h2_), (2, .int (iI ((q_ : Nat) : Int))), (3, .int (iI (x_)))]) hx_ hb_ dX2_origin_6 hl_ (by decide) rfl (fun ls_ hl_ => ?_)
  exact lp8 (q_ + 1) q_ x_ ls_ (by omega) (by omega) (by omega) (rfl) (by omega) (lv_sub hl_ [2, 3, 4, 5, 1, 0] rfl)

set_option maxHeartbeats 4000000 in
set_option maxRecDepth 100000 in
/-- CopyOrder.isReady -/
theorem c_X2_isReady (l_ : Launch) (G_ : va_G) (cI cZ : ClassId) (h_ a_ b_ d_ : Nat) (od_ : Nat → Nat) (wt_ dr_ : Nat → Bool) (sp_ : Nat) (h2_ a2_ b2_ d2_ : Nat) (k_ : Nat) (os_ ns_ ln_ : Nat → Nat) (y_ : Nat) (hk_ : k_ ≤ 48) (hB_ : B48 k_ os_ ns_ ln_) (hy_ : y_ < k_) : Ro l_ yX2_isReady wsX2_isReady ({ frames := 3, cells := 0, slots := 0, locals := 64 }) G_ cI cZ [.ref h_, .ref h2_, .int (iI ((y_ : Nat) : Int))] (wCo cI cZ h_ a_ b_ d_ od_ wt_ dr_ sp_ ++ wBl cI h2_ a2_ b2_ d2_ k_ os_ ns_ ln_) (bZ (rdy k_ os_ ns_ ln_ wt_ y_)) := by
  refine Met.ofW (cc := cX2_isReady) (maxL := 4) (ret := (some .boolean)) (by decide) rfl ?_
  intro p_ e_ s_ m_ args below meth c_ s₁ B hml hv
  obtain ⟨hargs, hP_, hK_⟩ := hv
  have hx_ := B.exec
  have hb_ := B.bytes
  have hr := B.returns
  have hts := atoms_spec (ws := wsX2_isReady) B.pre
  have hown : s_.vm.findClass RX2 = some m_.cls := findClass_of_methodNamed B.named
  have hlocks := B.notSynchronized
  have hP_ : va_P G_ vwCl [(h_, .inr (2, [.ref a_, .ref b_, .ref d_, .int (iI ((sp_ : Nat) : Int))])), (a_, .inl (cI, 48, .inl (aN od_))), (b_, .inl (cZ, 48, .inl (aB wt_))), (d_, .inl (cZ, 48, .inl (aB dr_))), (h2_, .inr (1, [.ref a2_, .ref b2_, .ref d2_, .int (iI ((k_ : Nat) : Int))])), (a2_, .inl (cI, 48, .inl (aN os_))), (b2_, .inl (cI, 48, .inl (aN ns_))), (d2_, .inl (cI, 48, .inl (aN ln_)))] s_.heap := hP_
  generalize hQe : MQ below (vp_Si (fun r_ => r_ = iI (bZ (rdy k_ os_ ns_ ln_ wt_ y_)))) args s_ 0 0 (fun _ => False) = Q_
  have lp2 : ∀ (n_ : Nat) (i_ : Nat) (ls_ : Array Slot), (i_ ≤ k_) → (k_ + 1 ≤ i_ + n_) → (∀ j_, j_ < i_ → (wt_ j_ && mgb os_ ns_ ln_ j_ y_) = false) → lv_has ls_ 4 [(0, .ref h_), (1, .ref h2_), (2, .int (iI ((y_ : Nat) : Int))), (3, .int (iI ((i_ : Nat) : Int)))] → W p_ l_ e_ (headSpec wsX2_isReady ({ frames := 3, cells := 0, slots := 0, locals := 64 })).room s_ m_ args below meth c_ s_.heap [] 0 0 Q_ (F0 m_ 2 ls_ []) := by
    intro n_
    induction n_ with
    | zero =>
      intro i_ ls_ hi_ hn_ hno
      exact False.elim (by omega)
    | succ n_ ih_ =>
      intro i_ ls_ hi_ hn_ hno hl_
      refine lv_iload_n hx_ hb_ dX2_isReady_2 rfl (lv_at hl_ 3 rfl) ?_
      refine lv_aload_n hx_ hb_ dX2_isReady_3 rfl (lv_at hl_ 1 rfl) ?_
      refine ro_V (As := []) (rest := [.int (iI ((i_ : Nat) : Int))]) ⟨hx_, hb_, hml, hown, hts⟩ (c_X1_size l_ G_ cI cZ h2_ a2_ b2_ d2_ k_ os_ ns_ ln_) (cwV 0 hts gX2_isReady_X1_size rfl rfl rfl (by decide +kernel) ⟨Nat.le_of_ble_eq_true rfl, Nat.le_of_ble_eq_true rfl⟩) (hP_.sub (ws' := [(h2_, .inr (1, [.ref a2_, .ref b2_, .ref d2_, .int (iI ((k_ : Nat) : Int))])), (a2_, .inl (cI, 48, .inl (aN os_))), (b2_, .inl (cI, 48, .inl (aN ns_))), (d2_, .inl (cI, 48, .inl (aN ln_)))]) [4, 5, 6, 7] rfl) hK_ 0 rfl rfl rfl hl_.1 rfl (Nat.le_of_ble_eq_true rfl) dX2_isReady_4 ⟨Nat.zero_le _, Nat.zero_le _⟩ ?_
      refine q_icmp_ge (tgt := 35) hx_ hb_ dX2_isReady_7 (by decide) (⟨by omega, by omega⟩) (⟨by omega, by omega⟩) (fun c7_ => ?_) (fun c7_ => ?_)
      · skip
        refine lv_iconst (v := iI ((1 : Nat) : Int)) hx_ hb_ dX2_isReady_35 rfl ?_
        rw [← hQe]
        refine q_cast (b := bZ true) rfl ?_
        exact W.zret (v := _) hx_ hb_ hr (nar_bZ _) (fun tt1 htt1 hWW1 => ⟨_, rfl, congrArg iI (congrArg bZ ((rdy_yes (fun j_ hj_ => hno j_ (by omega))).symm)), htt1⟩) (fun q_ h_ => absurd h_ List.not_mem_nil) dX2_isReady_36
      · skip
        refine lv_aload_n hx_ hb_ dX2_isReady_10 rfl (lv_at hl_ 0 rfl) ?_
        refine lv_iload_n hx_ hb_ dX2_isReady_11 rfl (lv_at hl_ 3 rfl) ?_
        refine ro_V (As := [.int (iI ((i_ : Nat) : Int))]) (rest := []) ⟨hx_, hb_, hml, hown, hts⟩ (c_X2_waits l_ G_ cI cZ h_ a_ b_ d_ od_ wt_ dr_ sp_ i_ (by omega)) (cwV 1 hts gX2_isReady_X2_waits rfl rfl rfl (by decide +kernel) ⟨Nat.le_of_ble_eq_true rfl, Nat.le_of_ble_eq_true rfl⟩) (hP_.sub (ws' := [(h_, .inr (2, [.ref a_, .ref b_, .ref d_, .int (iI ((sp_ : Nat) : Int))])), (a_, .inl (cI, 48, .inl (aN od_))), (b_, .inl (cZ, 48, .inl (aB wt_))), (d_, .inl (cZ, 48, .inl (aB dr_)))]) [0, 1, 2, 3] rfl) hK_ 0 rfl rfl rfl hl_.1 rfl (Nat.le_of_ble_eq_true rfl) dX2_isReady_12 ⟨Nat.zero_le _, Nat.zero_le _⟩ ?_
        refine q_bf (tgt := 29) hx_ hb_ dX2_isReady_15 (by decide) (fun c15_ => ?_) (fun c15_ => ?_)
        · skip
          refine q_iinc (k := 3) ((i_ + 1 : Nat) : Int) hx_ hb_ dX2_isReady_29 hl_ rfl (rfl) (by decide) (lv' := [(3, .int (iI ((i_ + 1 : Nat) : Int))), (0, .ref h_), (1, .ref h2_), (2, .int (iI ((y_ : Nat) : Int)))]) rfl (fun ls_ hl_ => ?_)
          refine lv_goto (tgt := 2) hx_ hb_ dX2_isReady_32 (by decide) ?_
          exact ih_ (i_ + 1) ls_ (by omega) (by omega) (lt_s hno (by rw [c15_]; rfl)) (lv_sub hl_ [1, 2, 3, 0] rfl)
        · skip
          refine lv_aload_n hx_ hb_ dX2_isReady_18 rfl (lv_at hl_ 1 rfl) ?_
          refine lv_iload_n hx_ hb_ dX2_isReady_19 rfl (lv_at hl_ 3 rfl) ?_
          refine lv_iload_n hx_ hb_ dX2_isReady_20 rfl (lv_at hl_ 2 rfl) ?_
          refine ro_V (As := [.int (iI ((i_ : Nat) : Int)), .int (iI ((y_ : Nat) : Int))]) (rest := []) ⟨hx_, hb_, hml, hown, hts⟩ (c_X1_mustGoBefore l_ G_ cI cZ h2_ a2_ b2_ d2_ k_ os_ ns_ ln_ i_ y_ (by omega) (by omega) (by omega) (hB_)) (cwV 2 hts gX2_isReady_X1_mustGoBefore rfl rfl rfl (by decide +kernel) ⟨Nat.le_of_ble_eq_true rfl, Nat.le_of_ble_eq_true rfl⟩) (hP_.sub (ws' := [(h2_, .inr (1, [.ref a2_, .ref b2_, .ref d2_, .int (iI ((k_ : Nat) : Int))])), (a2_, .inl (cI, 48, .inl (aN os_))), (b2_, .inl (cI, 48, .inl (aN ns_))), (d2_, .inl (cI, 48, .inl (aN ln_)))]) [4, 5, 6, 7] rfl) hK_ 0 rfl rfl rfl hl_.1 rfl (Nat.le_of_ble_eq_true rfl) dX2_isReady_21 ⟨Nat.zero_le _, Nat.zero_le _⟩ ?_
          refine q_bf (tgt := 29) hx_ hb_ dX2_isReady_24 (by decide) (fun c24_ => ?_) (fun c24_ => ?_)
          · skip
            refine q_iinc (k := 3) ((i_ + 1 : Nat) : Int) hx_ hb_ dX2_isReady_29 hl_ rfl (rfl) (by decide) (lv' := [(3, .int (iI ((i_ + 1 : Nat) : Int))), (0, .ref h_), (1, .ref h2_), (2, .int (iI ((y_ : Nat) : Int)))]) rfl (fun ls_ hl_ => ?_)
            refine lv_goto (tgt := 2) hx_ hb_ dX2_isReady_32 (by decide) ?_
            exact ih_ (i_ + 1) ls_ (by omega) (by omega) (lt_s hno (by rw [c24_]; simp)) (lv_sub hl_ [1, 2, 3, 0] rfl)
          · skip
            refine lv_iconst (v := iI ((0 : Nat) : Int)) hx_ hb_ dX2_isReady_27 rfl ?_
            rw [← hQe]
            refine q_cast (b := bZ false) rfl ?_
            exact W.zret (v := _) hx_ hb_ hr (nar_bZ _) (fun tt1 htt1 hWW1 => ⟨_, rfl, congrArg iI (congrArg bZ ((rdy_no (by omega) c15_ c24_).symm)), htt1⟩) (fun q_ h_ => absurd h_ List.not_mem_nil) dX2_isReady_28
  rw [show entryFrame m_ args 4 = entryFrame m_ ([.ref h_, .ref h2_, .int (iI ((y_ : Nat) : Int))] : List Value).toArray 4 from by rw [hargs], lg_entry_eq]
  have hl_ := lv_entry ([.ref h_, .ref h2_, .int (iI ((y_ : Nat) : Int))]) (n := 4) (Nat.le_of_ble_eq_true rfl)
  generalize (lg_sl ([.ref h_, .ref h2_, .int (iI ((y_ : Nat) : Int))]) ++ List.replicate (4 - (lg_sl ([.ref h_, .ref h2_, .int (iI ((y_ : Nat) : Int))])).length) Slot.unset).toArray = ls_ at hl_ ⊢
  have hl_ : lv_has ls_ 4 [(0, .ref h_), (1, .ref h2_), (2, .int (iI ((y_ : Nat) : Int)))] := hl_
  refine lv_iconst (v := iI ((0 : Nat) : Int)) hx_ hb_ dX2_isReady_0 rfl ?_
  refine lv_istore_n (lv' := [(3, .int (iI ((0 : Nat) : Int))), (0, .ref h_), (1, .ref h2_), (2, .int (iI ((y_ : Nat) : Int)))]) hx_ hb_ dX2_isReady_1 rfl hl_ (by decide) rfl (fun ls_ hl_ => ?_)
  exact lp2 (k_ + 1) 0 ls_ (by omega) (by omega) (fun j_ hj_ => absurd hj_ (Nat.not_lt_zero _)) (lv_sub hl_ [1, 2, 3, 0] rfl)

set_option maxHeartbeats 4000000 in
set_option maxRecDepth 100000 in
/-- CopyOrder.firstReady -/
theorem c_X2_firstReady (l_ : Launch) (G_ : va_G) (cI cZ : ClassId) (h_ a_ b_ d_ : Nat) (od_ : Nat → Nat) (wt_ dr_ : Nat → Bool) (sp_ : Nat) (h2_ a2_ b2_ d2_ : Nat) (k_ : Nat) (os_ ns_ ln_ : Nat → Nat) (hk_ : k_ ≤ 48) (hB_ : B48 k_ os_ ns_ ln_) : Ro l_ yX2_firstReady wsX2_firstReady ({ frames := 4, cells := 0, slots := 0, locals := 87 }) G_ cI cZ [.ref h_, .ref h2_] (wCo cI cZ h_ a_ b_ d_ od_ wt_ dr_ sp_ ++ wBl cI h2_ a2_ b2_ d2_ k_ os_ ns_ ln_) (wI (frd k_ os_ ns_ ln_ wt_) k_ (-1)) := by
  refine Met.ofW (cc := cX2_firstReady) (maxL := 3) (ret := (some .int)) (by decide) rfl ?_
  intro p_ e_ s_ m_ args below meth c_ s₁ B hml hv
  obtain ⟨hargs, hP_, hK_⟩ := hv
  have hx_ := B.exec
  have hb_ := B.bytes
  have hr := B.returns
  have hts := atoms_spec (ws := wsX2_firstReady) B.pre
  have hown : s_.vm.findClass RX2 = some m_.cls := findClass_of_methodNamed B.named
  have hlocks := B.notSynchronized
  have hP_ : va_P G_ vwCl [(h_, .inr (2, [.ref a_, .ref b_, .ref d_, .int (iI ((sp_ : Nat) : Int))])), (a_, .inl (cI, 48, .inl (aN od_))), (b_, .inl (cZ, 48, .inl (aB wt_))), (d_, .inl (cZ, 48, .inl (aB dr_))), (h2_, .inr (1, [.ref a2_, .ref b2_, .ref d2_, .int (iI ((k_ : Nat) : Int))])), (a2_, .inl (cI, 48, .inl (aN os_))), (b2_, .inl (cI, 48, .inl (aN ns_))), (d2_, .inl (cI, 48, .inl (aN ln_)))] s_.heap := hP_
  generalize hQe : MQ below (vp_Si (fun r_ => r_ = iI (wI (frd k_ os_ ns_ ln_ wt_) k_ (-1)))) args s_ 0 0 (fun _ => False) = Q_
  have lp2 : ∀ (n_ : Nat) (i_ : Nat) (ls_ : Array Slot), (i_ ≤ k_) → (k_ + 1 ≤ i_ + n_) → (∀ j_, j_ < i_ → (wt_ j_ && rdy k_ os_ ns_ ln_ wt_ j_) = false) → lv_has ls_ 3 [(0, .ref h_), (1, .ref h2_), (2, .int (iI ((i_ : Nat) : Int)))] → W p_ l_ e_ (headSpec wsX2_firstReady ({ frames := 4, cells := 0, slots := 0, locals := 87 })).room s_ m_ args below meth c_ s_.heap [] 0 0 Q_ (F0 m_ 2 ls_ []) := by
    intro n_
    induction n_ with
    | zero =>
      intro i_ ls_ hi_ hn_ hno
      exact False.elim (by omega)
    | succ n_ ih_ =>
      intro i_ ls_ hi_ hn_ hno hl_
      refine lv_iload_n hx_ hb_ dX2_firstReady_2 rfl (lv_at hl_ 2 rfl) ?_
      refine lv_aload_n hx_ hb_ dX2_firstReady_3 rfl (lv_at hl_ 1 rfl) ?_
      refine ro_V (As := []) (rest := [.int (iI ((i_ : Nat) : Int))]) ⟨hx_, hb_, hml, hown, hts⟩ (c_X1_size l_ G_ cI cZ h2_ a2_ b2_ d2_ k_ os_ ns_ ln_) (cwV 0 hts gX2_firstReady_X1_size rfl rfl rfl (by decide +kernel) ⟨Nat.le_of_ble_eq_true rfl, Nat.le_of_ble_eq_true rfl⟩) (hP_.sub (ws' := [(h2_, .inr (1, [.ref a2_, .ref b2_, .ref d2_, .int (iI ((k_ : Nat) : Int))])), (a2_, .inl (cI, 48, .inl (aN os_))), (b2_, .inl (cI, 48, .inl (aN ns_))), (d2_, .inl (cI, 48, .inl (aN ln_)))]) [4, 5, 6, 7] rfl) hK_ 0 rfl rfl rfl hl_.1 rfl (Nat.le_of_ble_eq_true rfl) dX2_firstReady_4 ⟨Nat.zero_le _, Nat.zero_le _⟩ ?_
      refine q_icmp_ge (tgt := 35) hx_ hb_ dX2_firstReady_7 (by decide) (⟨by omega, by omega⟩) (⟨by omega, by omega⟩) (fun c7_ => ?_) (fun c7_ => ?_)
      · skip
        refine lv_iconst (v := iI (-1)) hx_ hb_ dX2_firstReady_35 rfl ?_
        rw [← hQe]
        exact W.iret hx_ hb_ hr (fun tt1 htt1 hWW1 => ⟨_, rfl, congrArg iI (fst_wI (Or.inl ⟨rfl, fun j_ hj_ => hno j_ (by omega)⟩)), htt1⟩) (fun q_ h_ => absurd h_ List.not_mem_nil) dX2_firstReady_36
      · skip
        refine lv_aload_n hx_ hb_ dX2_firstReady_10 rfl (lv_at hl_ 0 rfl) ?_
        refine lv_iload_n hx_ hb_ dX2_firstReady_11 rfl (lv_at hl_ 2 rfl) ?_
        refine ro_V (As := [.int (iI ((i_ : Nat) : Int))]) (rest := []) ⟨hx_, hb_, hml, hown, hts⟩ (c_X2_waits l_ G_ cI cZ h_ a_ b_ d_ od_ wt_ dr_ sp_ i_ (by omega)) (cwV 1 hts gX2_firstReady_X2_waits rfl rfl rfl (by decide +kernel) ⟨Nat.le_of_ble_eq_true rfl, Nat.le_of_ble_eq_true rfl⟩) (hP_.sub (ws' := [(h_, .inr (2, [.ref a_, .ref b_, .ref d_, .int (iI ((sp_ : Nat) : Int))])), (a_, .inl (cI, 48, .inl (aN od_))), (b_, .inl (cZ, 48, .inl (aB wt_))), (d_, .inl (cZ, 48, .inl (aB dr_)))]) [0, 1, 2, 3] rfl) hK_ 0 rfl rfl rfl hl_.1 rfl (Nat.le_of_ble_eq_true rfl) dX2_firstReady_12 ⟨Nat.zero_le _, Nat.zero_le _⟩ ?_
        refine q_bf (tgt := 29) hx_ hb_ dX2_firstReady_15 (by decide) (fun c15_ => ?_) (fun c15_ => ?_)
        · skip
          refine q_iinc (k := 2) ((i_ + 1 : Nat) : Int) hx_ hb_ dX2_firstReady_29 hl_ rfl (rfl) (by decide) (lv' := [(2, .int (iI ((i_ + 1 : Nat) : Int))), (0, .ref h_), (1, .ref h2_)]) rfl (fun ls_ hl_ => ?_)
          refine lv_goto (tgt := 2) hx_ hb_ dX2_firstReady_32 (by decide) ?_
          exact ih_ (i_ + 1) ls_ (by omega) (by omega) (lt_s hno (by rw [c15_]; rfl)) (lv_sub hl_ [1, 2, 0] rfl)
        · skip
          refine lv_aload_n hx_ hb_ dX2_firstReady_18 rfl (lv_at hl_ 0 rfl) ?_
          refine lv_aload_n hx_ hb_ dX2_firstReady_19 rfl (lv_at hl_ 1 rfl) ?_
          refine lv_iload_n hx_ hb_ dX2_firstReady_20 rfl (lv_at hl_ 2 rfl) ?_
          refine ro_V (As := [.ref h2_, .int (iI ((i_ : Nat) : Int))]) (rest := []) ⟨hx_, hb_, hml, hown, hts⟩ (c_X2_isReady l_ G_ cI cZ h_ a_ b_ d_ od_ wt_ dr_ sp_ h2_ a2_ b2_ d2_ k_ os_ ns_ ln_ i_ (by omega) (hB_) (by omega)) (cwV 2 hts gX2_firstReady_X2_isReady rfl rfl rfl (by decide +kernel) ⟨Nat.le_of_ble_eq_true rfl, Nat.le_of_ble_eq_true rfl⟩) (hP_.sub (ws' := [(h_, .inr (2, [.ref a_, .ref b_, .ref d_, .int (iI ((sp_ : Nat) : Int))])), (a_, .inl (cI, 48, .inl (aN od_))), (b_, .inl (cZ, 48, .inl (aB wt_))), (d_, .inl (cZ, 48, .inl (aB dr_))), (h2_, .inr (1, [.ref a2_, .ref b2_, .ref d2_, .int (iI ((k_ : Nat) : Int))])), (a2_, .inl (cI, 48, .inl (aN os_))), (b2_, .inl (cI, 48, .inl (aN ns_))), (d2_, .inl (cI, 48, .inl (aN ln_)))]) [0, 1, 2, 3, 4, 5, 6, 7] rfl) hK_ 0 rfl rfl rfl hl_.1 rfl (Nat.le_of_ble_eq_true rfl) dX2_firstReady_21 ⟨Nat.zero_le _, Nat.zero_le _⟩ ?_
          refine q_bf (tgt := 29) hx_ hb_ dX2_firstReady_24 (by decide) (fun c24_ => ?_) (fun c24_ => ?_)
          · skip
            refine q_iinc (k := 2) ((i_ + 1 : Nat) : Int) hx_ hb_ dX2_firstReady_29 hl_ rfl (rfl) (by decide) (lv' := [(2, .int (iI ((i_ + 1 : Nat) : Int))), (0, .ref h_), (1, .ref h2_)]) rfl (fun ls_ hl_ => ?_)
            refine lv_goto (tgt := 2) hx_ hb_ dX2_firstReady_32 (by decide) ?_
            exact ih_ (i_ + 1) ls_ (by omega) (by omega) (lt_s hno (by rw [c24_]; simp)) (lv_sub hl_ [1, 2, 0] rfl)
          · skip
            refine lv_iload_n hx_ hb_ dX2_firstReady_27 rfl (lv_at hl_ 2 rfl) ?_
            rw [← hQe]
            exact W.iret hx_ hb_ hr (fun tt1 htt1 hWW1 => ⟨_, rfl, congrArg iI (fst_wI (Or.inr ⟨i_, by omega, by rw [c15_, c24_]; rfl, hno, rfl⟩)), htt1⟩) (fun q_ h_ => absurd h_ List.not_mem_nil) dX2_firstReady_28
  rw [show entryFrame m_ args 3 = entryFrame m_ ([.ref h_, .ref h2_] : List Value).toArray 3 from by rw [hargs], lg_entry_eq]
  have hl_ := lv_entry ([.ref h_, .ref h2_]) (n := 3) (Nat.le_of_ble_eq_true rfl)
  generalize (lg_sl ([.ref h_, .ref h2_]) ++ List.replicate (3 - (lg_sl ([.ref h_, .ref h2_])).length) Slot.unset).toArray = ls_ at hl_ ⊢
  have hl_ : lv_has ls_ 3 [(0, .ref h_), (1, .ref h2_)] := hl_
  refine lv_iconst (v := iI ((0 : Nat) : Int)) hx_ hb_ dX2_firstReady_0 rfl ?_
  refine lv_istore_n (lv' := [(2, .int (iI ((0 : Nat) : Int))), (0, .ref h_), (1, .ref h2_)]) hx_ hb_ dX2_firstReady_1 rfl hl_ (by decide) rfl (fun ls_ hl_ => ?_)
  exact lp2 (k_ + 1) 0 ls_ (by omega) (by omega) (fun j_ hj_ => absurd hj_ (Nat.not_lt_zero _)) (lv_sub hl_ [1, 2, 0] rfl)

set_option maxHeartbeats 4000000 in
set_option maxRecDepth 100000 in
/-- CopyOrder.shortestWaiting -/
theorem c_X2_shortestWaiting (l_ : Launch) (G_ : va_G) (cI cZ : ClassId) (h_ a_ b_ d_ : Nat) (od_ : Nat → Nat) (wt_ dr_ : Nat → Bool) (sp_ : Nat) (h2_ a2_ b2_ d2_ : Nat) (k_ : Nat) (os_ ns_ ln_ : Nat → Nat) (hk_ : k_ ≤ 48) (hB_ : B48 k_ os_ ns_ ln_) : Ro l_ yX2_shortestWaiting wsX2_shortestWaiting ({ frames := 2, cells := 0, slots := 0, locals := 42 }) G_ cI cZ [.ref h_, .ref h2_] (wCo cI cZ h_ a_ b_ d_ od_ wt_ dr_ sp_ ++ wBl cI h2_ a2_ b2_ d2_ k_ os_ ns_ ln_) (oV (-1) (shw k_ ln_ wt_)) := by
  refine Met.ofW (cc := cX2_shortestWaiting) (maxL := 4) (ret := (some .int)) (by decide) rfl ?_
  intro p_ e_ s_ m_ args below meth c_ s₁ B hml hv
  obtain ⟨hargs, hP_, hK_⟩ := hv
  have hx_ := B.exec
  have hb_ := B.bytes
  have hr := B.returns
  have hts := atoms_spec (ws := wsX2_shortestWaiting) B.pre
  have hown : s_.vm.findClass RX2 = some m_.cls := findClass_of_methodNamed B.named
  have hlocks := B.notSynchronized
  have hP_ : va_P G_ vwCl [(h_, .inr (2, [.ref a_, .ref b_, .ref d_, .int (iI ((sp_ : Nat) : Int))])), (a_, .inl (cI, 48, .inl (aN od_))), (b_, .inl (cZ, 48, .inl (aB wt_))), (d_, .inl (cZ, 48, .inl (aB dr_))), (h2_, .inr (1, [.ref a2_, .ref b2_, .ref d2_, .int (iI ((k_ : Nat) : Int))])), (a2_, .inl (cI, 48, .inl (aN os_))), (b2_, .inl (cI, 48, .inl (aN ns_))), (d2_, .inl (cI, 48, .inl (aN ln_)))] s_.heap := hP_
  generalize hQe : MQ below (vp_Si (fun r_ => r_ = iI (oV (-1) (shw k_ ln_ wt_)))) args s_ 0 0 (fun _ => False) = Q_
  have lp4 : ∀ (n_ : Nat) (i_ : Nat) (gz : Int) (ls_ : Array Slot), (i_ ≤ k_) → (k_ + 1 ≤ i_ + n_) → (gz = oV (-1) (shw i_ ln_ wt_)) → lv_has ls_ 4 [(0, .ref h_), (1, .ref h2_), (2, .int (iI (gz))), (3, .int (iI ((i_ : Nat) : Int)))] → W p_ l_ e_ (headSpec wsX2_shortestWaiting ({ frames := 2, cells := 0, slots := 0, locals := 42 })).room s_ m_ args below meth c_ s_.heap [] 0 0 Q_ (F0 m_ 4 ls_ []) := by
    intro n_
    induction n_ with
    | zero =>
      intro i_ gz ls_ hi_ hn_ hg_
      exact False.elim (by omega)
    | succ n_ ih_ =>
      intro i_ gz ls_ hi_ hn_ hg_ hl_
      have hgr : -1 ≤ gz ∧ gz < 49 := by rw [hg_]; cases h_ : shw i_ ln_ wt_ with | none => exact ⟨by decide, by decide⟩ | some g_ => exact ⟨by show (-1 : Int) ≤ (g_ : Int); omega, by have := (bst_lt h_).1; show (g_ : Int) < 49; omega⟩
      refine lv_iload_n hx_ hb_ dX2_shortestWaiting_4 rfl (lv_at hl_ 3 rfl) ?_
      refine lv_aload_n hx_ hb_ dX2_shortestWaiting_5 rfl (lv_at hl_ 1 rfl) ?_
      refine ro_V (As := []) (rest := [.int (iI ((i_ : Nat) : Int))]) ⟨hx_, hb_, hml, hown, hts⟩ (c_X1_size l_ G_ cI cZ h2_ a2_ b2_ d2_ k_ os_ ns_ ln_) (cwV 0 hts gX2_shortestWaiting_X1_size rfl rfl rfl (by decide +kernel) ⟨Nat.le_of_ble_eq_true rfl, Nat.le_of_ble_eq_true rfl⟩) (hP_.sub (ws' := [(h2_, .inr (1, [.ref a2_, .ref b2_, .ref d2_, .int (iI ((k_ : Nat) : Int))])), (a2_, .inl (cI, 48, .inl (aN os_))), (b2_, .inl (cI, 48, .inl (aN ns_))), (d2_, .inl (cI, 48, .inl (aN ln_)))]) [4, 5, 6, 7] rfl) hK_ 0 rfl rfl rfl hl_.1 rfl (Nat.le_of_ble_eq_true rfl) dX2_shortestWaiting_6 ⟨Nat.zero_le _, Nat.zero_le _⟩ ?_
      refine q_icmp_ge (tgt := 46) hx_ hb_ dX2_shortestWaiting_9 (by decide) (⟨by omega, by omega⟩) (⟨by omega, by omega⟩) (fun c9_ => ?_) (fun c9_ => ?_)
      · skip
        have hik : i_ = k_ := by omega
        rw [hik] at hg_
        refine lv_iload_n hx_ hb_ dX2_shortestWaiting_46 rfl (lv_at hl_ 2 rfl) ?_
        rw [← hQe]
        exact W.iret hx_ hb_ hr (fun tt1 htt1 hWW1 => ⟨_, rfl, congrArg iI (hg_), htt1⟩) (fun q_ h_ => absurd h_ List.not_mem_nil) dX2_shortestWaiting_47
      · skip
        have fb1 := hB_ i_ (by omega)
        refine lv_aload_n hx_ hb_ dX2_shortestWaiting_12 rfl (lv_at hl_ 0 rfl) ?_
        refine lv_iload_n hx_ hb_ dX2_shortestWaiting_13 rfl (lv_at hl_ 3 rfl) ?_
        refine ro_V (As := [.int (iI ((i_ : Nat) : Int))]) (rest := []) ⟨hx_, hb_, hml, hown, hts⟩ (c_X2_waits l_ G_ cI cZ h_ a_ b_ d_ od_ wt_ dr_ sp_ i_ (by omega)) (cwV 1 hts gX2_shortestWaiting_X2_waits rfl rfl rfl (by decide +kernel) ⟨Nat.le_of_ble_eq_true rfl, Nat.le_of_ble_eq_true rfl⟩) (hP_.sub (ws' := [(h_, .inr (2, [.ref a_, .ref b_, .ref d_, .int (iI ((sp_ : Nat) : Int))])), (a_, .inl (cI, 48, .inl (aN od_))), (b_, .inl (cZ, 48, .inl (aB wt_))), (d_, .inl (cZ, 48, .inl (aB dr_)))]) [0, 1, 2, 3] rfl) hK_ 0 rfl rfl rfl hl_.1 rfl (Nat.le_of_ble_eq_true rfl) dX2_shortestWaiting_14 ⟨Nat.zero_le _, Nat.zero_le _⟩ ?_
        refine q_bf (tgt := 40) hx_ hb_ dX2_shortestWaiting_17 (by decide) (fun c17_ => ?_) (fun c17_ => ?_)
        · skip
          refine q_iinc (k := 3) ((i_ + 1 : Nat) : Int) hx_ hb_ dX2_shortestWaiting_40 hl_ rfl (rfl) (by decide) (lv' := [(3, .int (iI ((i_ + 1 : Nat) : Int))), (0, .ref h_), (1, .ref h2_), (2, .int (iI (gz)))]) rfl (fun ls_ hl_ => ?_)
          refine lv_goto (tgt := 4) hx_ hb_ dX2_shortestWaiting_43 (by decide) ?_
          exact ih_ (i_ + 1) ((gz)) ls_ (by omega) (by omega) (by rw [hg_]; unfold shw; rw [bst_skip c17_]) (lv_sub hl_ [1, 2, 3, 0] rfl)
        · skip
          refine lv_iload_n hx_ hb_ dX2_shortestWaiting_20 rfl (lv_at hl_ 2 rfl) ?_
          refine lv_iconst (v := iI (-1)) hx_ hb_ dX2_shortestWaiting_21 rfl ?_
          refine q_icmp_eq (tgt := 38) hx_ hb_ dX2_shortestWaiting_22 (by decide) (⟨by omega, by omega⟩) (⟨by decide, by decide⟩) (fun c22_ => ?_) (fun c22_ => ?_)
          · skip
            refine lv_iload_n hx_ hb_ dX2_shortestWaiting_38 rfl (lv_at hl_ 3 rfl) ?_
            refine lv_istore_n (lv' := [(2, .int (iI ((i_ : Nat) : Int))), (0, .ref h_), (1, .ref h2_), (3, .int (iI ((i_ : Nat) : Int)))]) hx_ hb_ dX2_shortestWaiting_39 rfl hl_ (by decide) rfl (fun ls_ hl_ => ?_)
            refine q_iinc (k := 3) ((i_ + 1 : Nat) : Int) hx_ hb_ dX2_shortestWaiting_40 hl_ rfl (rfl) (by decide) (lv' := [(3, .int (iI ((i_ + 1 : Nat) : Int))), (2, .int (iI ((i_ : Nat) : Int))), (0, .ref h_), (1, .ref h2_)]) rfl (fun ls_ hl_ => ?_)
            refine lv_goto (tgt := 4) hx_ hb_ dX2_shortestWaiting_43 (by decide) ?_
            exact ih_ (i_ + 1) (((i_ : Nat) : Int)) ls_ (by omega) (by omega) (by unfold shw; rw [bst_ns (oV_none (by decide) (hg_.symm.trans c22_)) c17_]; rfl) (lv_sub hl_ [2, 3, 1, 0] rfl)
          · skip
            obtain ⟨g_, hgs, hgz⟩ : ∃ g_, shw i_ ln_ wt_ = some g_ ∧ gz = (g_ : Int) := by rw [hg_] at c22_; obtain ⟨g_, h1_, h2_⟩ := oV_some c22_; exact ⟨g_, h1_, by rw [hg_, h2_]⟩
            have hgl := (bst_lt hgs).1
            subst hgz
            have fb3 := hB_ g_ (by omega)
            refine lv_aload_n hx_ hb_ dX2_shortestWaiting_25 rfl (lv_at hl_ 1 rfl) ?_
            refine lv_iload_n hx_ hb_ dX2_shortestWaiting_26 rfl (lv_at hl_ 3 rfl) ?_
            refine ro_V (As := [.int (iI ((i_ : Nat) : Int))]) (rest := []) ⟨hx_, hb_, hml, hown, hts⟩ (c_X1_length l_ G_ cI cZ h2_ a2_ b2_ d2_ k_ os_ ns_ ln_ i_ (by omega) (by omega)) (cwV 1 hts gX2_shortestWaiting_X1_length rfl rfl rfl (by decide +kernel) ⟨Nat.le_of_ble_eq_true rfl, Nat.le_of_ble_eq_true rfl⟩) (hP_.sub (ws' := [(h2_, .inr (1, [.ref a2_, .ref b2_, .ref d2_, .int (iI ((k_ : Nat) : Int))])), (a2_, .inl (cI, 48, .inl (aN os_))), (b2_, .inl (cI, 48, .inl (aN ns_))), (d2_, .inl (cI, 48, .inl (aN ln_)))]) [4, 5, 6, 7] rfl) hK_ 0 rfl rfl rfl hl_.1 rfl (Nat.le_of_ble_eq_true rfl) dX2_shortestWaiting_27 ⟨Nat.zero_le _, Nat.zero_le _⟩ ?_
            refine lv_aload_n hx_ hb_ dX2_shortestWaiting_30 rfl (lv_at hl_ 1 rfl) ?_
            refine lv_iload_n hx_ hb_ dX2_shortestWaiting_31 rfl (lv_at hl_ 2 rfl) ?_
            refine ro_V (As := [.int (iI ((g_ : Nat) : Int))]) (rest := [.int (iI ((ln_ i_ : Nat) : Int))]) ⟨hx_, hb_, hml, hown, hts⟩ (c_X1_length l_ G_ cI cZ h2_ a2_ b2_ d2_ k_ os_ ns_ ln_ g_ (by omega) (by omega)) (cwV 1 hts gX2_shortestWaiting_X1_length rfl rfl rfl (by decide +kernel) ⟨Nat.le_of_ble_eq_true rfl, Nat.le_of_ble_eq_true rfl⟩) (hP_.sub (ws' := [(h2_, .inr (1, [.ref a2_, .ref b2_, .ref d2_, .int (iI ((k_ : Nat) : Int))])), (a2_, .inl (cI, 48, .inl (aN os_))), (b2_, .inl (cI, 48, .inl (aN ns_))), (d2_, .inl (cI, 48, .inl (aN ln_)))]) [4, 5, 6, 7] rfl) hK_ 0 rfl rfl rfl hl_.1 rfl (Nat.le_of_ble_eq_true rfl) dX2_shortestWaiting_32 ⟨Nat.zero_le _, Nat.zero_le _⟩ ?_
            refine q_icmp_ge (tgt := 40) hx_ hb_ dX2_shortestWaiting_35 (by decide) (⟨by omega, by omega⟩) (⟨by omega, by omega⟩) (fun c35_ => ?_) (fun c35_ => ?_)
            · skip
              refine q_iinc (k := 3) ((i_ + 1 : Nat) : Int) hx_ hb_ dX2_shortestWaiting_40 hl_ rfl (rfl) (by decide) (lv' := [(3, .int (iI ((i_ + 1 : Nat) : Int))), (0, .ref h_), (1, .ref h2_), (2, .int (iI ((g_ : Nat) : Int)))]) rfl (fun ls_ hl_ => ?_)
              refine lv_goto (tgt := 4) hx_ hb_ dX2_shortestWaiting_43 (by decide) ?_
              exact ih_ (i_ + 1) (((g_ : Nat) : Int)) ls_ (by omega) (by omega) (by unfold shw; rw [bst_sk hgs (decide_eq_false (by omega))]; rfl) (lv_sub hl_ [1, 2, 3, 0] rfl)
            · skip
              refine lv_iload_n hx_ hb_ dX2_shortestWaiting_38 rfl (lv_at hl_ 3 rfl) ?_
              refine lv_istore_n (lv' := [(2, .int (iI ((i_ : Nat) : Int))), (0, .ref h_), (1, .ref h2_), (3, .int (iI ((i_ : Nat) : Int)))]) hx_ hb_ dX2_shortestWaiting_39 rfl hl_ (by decide) rfl (fun ls_ hl_ => ?_)
              refine q_iinc (k := 3) ((i_ + 1 : Nat) : Int) hx_ hb_ dX2_shortestWaiting_40 hl_ rfl (rfl) (by decide) (lv' := [(3, .int (iI ((i_ + 1 : Nat) : Int))), (2, .int (iI ((i_ : Nat) : Int))), (0, .ref h_), (1, .ref h2_)]) rfl (fun ls_ hl_ => ?_)
              refine lv_goto (tgt := 4) hx_ hb_ dX2_shortestWaiting_43 (by decide) ?_
              exact ih_ (i_ + 1) (((i_ : Nat) : Int)) ls_ (by omega) (by omega) (by unfold shw; rw [bst_ss hgs c17_ (decide_eq_true (by omega))]; rfl) (lv_sub hl_ [2, 3, 1, 0] rfl)
  rw [show entryFrame m_ args 4 = entryFrame m_ ([.ref h_, .ref h2_] : List Value).toArray 4 from by rw [hargs], lg_entry_eq]
  have hl_ := lv_entry ([.ref h_, .ref h2_]) (n := 4) (Nat.le_of_ble_eq_true rfl)
  generalize (lg_sl ([.ref h_, .ref h2_]) ++ List.replicate (4 - (lg_sl ([.ref h_, .ref h2_])).length) Slot.unset).toArray = ls_ at hl_ ⊢
  have hl_ : lv_has ls_ 4 [(0, .ref h_), (1, .ref h2_)] := hl_
  refine lv_iconst (v := iI (-1)) hx_ hb_ dX2_shortestWaiting_0 rfl ?_
  refine lv_istore_n (lv' := [(2, .int (iI (-1))), (0, .ref h_), (1, .ref h2_)]) hx_ hb_ dX2_shortestWaiting_1 rfl hl_ (by decide) rfl (fun ls_ hl_ => ?_)
  refine lv_iconst (v := iI ((0 : Nat) : Int)) hx_ hb_ dX2_shortestWaiting_2 rfl ?_
  refine lv_istore_n (lv' := [(3, .int (iI ((0 : Nat) : Int))), (2, .int (iI (-1))), (0, .ref h_), (1, .ref h2_)]) hx_ hb_ dX2_shortestWaiting_3 rfl hl_ (by decide) rfl (fun ls_ hl_ => ?_)
  exact lp4 (k_ + 1) 0 (-1) ls_ (by omega) (by omega) (rfl) (lv_sub hl_ [2, 3, 1, 0] rfl)

set_option maxHeartbeats 4000000 in
set_option maxRecDepth 100000 in
/-- CopyOrder.copy -/
theorem c_X2_copy (l_ : Launch) (G_ : va_G) (cI cZ : ClassId) (h_ a_ b_ d_ : Nat) (od_ : Nat → Nat) (wt_ dr_ : Nat → Bool) (sp_ : Nat) (j_ : Nat) (hj_ : j_ < 48) (hw_ : wt_ j_ = true) (hs_ : sp_ < 48) (sz : Nat) : Wr (S := Unit) l_ yX2_copy wsX2_copy ({ frames := 1, cells := 0, slots := 0, locals := 21 }) G_ cI cZ [.ref h_, .int (iI ((j_ : Nat) : Int))] (wCo cI cZ h_ a_ b_ d_ od_ wt_ dr_ sp_) sz (fun _ => True) (fun _ => wCo cI cZ h_ a_ b_ d_ (va_up od_ sp_ j_) (va_up wt_ j_ false) dr_ (sp_ + 1)) := by
  refine Met.ofW (cc := cX2_copy) (maxL := 2) (ret := (none)) (by decide) rfl ?_
  intro p_ e_ s_ m_ args below meth c_ s₁ B hml hv
  obtain ⟨hargs, hsz, hP_, hK_, hD0⟩ := hv
  have hx_ := B.exec
  have hb_ := B.bytes
  have hr := B.returns
  have hts := atoms_spec (ws := wsX2_copy) B.pre
  have hown : s_.vm.findClass RX2 = some m_.cls := findClass_of_methodNamed B.named
  have hlocks := B.notSynchronized
  have hi2_ : ∀ w_ ∈ wsX20, w_ ∈ wsX2_copy := by decide +kernel
  have hf9_ := hts (.fieldLink RX2 9 "RelocatingPatch$CopyOrder" "order" "[I") (by decide +kernel)
  have hf15_ := hts (.fieldLink RX2 15 "RelocatingPatch$CopyOrder" "waiting" "[Z") (by decide +kernel)
  have hf22_ := hts (.fieldLink RX2 22 "RelocatingPatch$CopyOrder" "steps" "I") (by decide +kernel)
  subst hsz
  have hD_ := hD0.self (sz := s_.heap.size)
  generalize hAe : va_A (wCo cI cZ h_ a_ b_ d_ od_ wt_ dr_ sp_) s_.heap.size = A_ at hD_ ⊢
  have hA_ : ∀ q_ : Nat, s_.heap.size ≤ q_ → A_ q_ := fun q_ h_ => by rw [← hAe]; exact Or.inr h_
  have hS_ : va_S A_ s_.heap s_.heap [] := va_S.rf
  have hP_ : va_P G_ vwCl [(h_, .inr (2, [.ref a_, .ref b_, .ref d_, .int (iI ((sp_ : Nat) : Int))])), (a_, .inl (cI, 48, .inl (aN od_))), (b_, .inl (cZ, 48, .inl (aB wt_))), (d_, .inl (cZ, 48, .inl (aB dr_)))] s_.heap := hP_
  have hD_ : va_D A_ [(h_, .inr (2, [.ref a_, .ref b_, .ref d_, .int (iI ((sp_ : Nat) : Int))])), (a_, .inl (cI, 48, .inl (aN od_))), (b_, .inl (cZ, 48, .inl (aB wt_))), (d_, .inl (cZ, 48, .inl (aB dr_)))] := hD_
  generalize hQe : MQ below (va_Qv (S := Unit) (fun _ => True) (fun u1 t1 => va_P G_ vwCl ((fun _ => wCo cI cZ h_ a_ b_ d_ (va_up od_ sp_ j_) (va_up wt_ j_ false) dr_ (sp_ + 1)) u1) t1.heap) A_) args s_ 0 0 A_ = Q_
  rw [show entryFrame m_ args 2 = entryFrame m_ ([.ref h_, .int (iI ((j_ : Nat) : Int))] : List Value).toArray 2 from by rw [hargs], lg_entry_eq]
  have hl_ := lv_entry ([.ref h_, .int (iI ((j_ : Nat) : Int))]) (n := 2) (Nat.le_of_ble_eq_true rfl)
  generalize (lg_sl ([.ref h_, .int (iI ((j_ : Nat) : Int))]) ++ List.replicate (2 - (lg_sl ([.ref h_, .int (iI ((j_ : Nat) : Int))])).length) Slot.unset).toArray = ls_ at hl_ ⊢
  have hl_ : lv_has ls_ 2 [(0, .ref h_), (1, .int (iI ((j_ : Nat) : Int)))] := hl_
  refine lv_aload_n hx_ hb_ dX2_copy_0 rfl (lv_at hl_ 0 rfl) ?_
  refine lv_iload_n hx_ hb_ dX2_copy_1 rfl (lv_at hl_ 1 rfl) ?_
  refine ro_V (As := [.int (iI ((j_ : Nat) : Int))]) (rest := []) ⟨hx_, hb_, hml, hown, hts⟩ (c_X2_waits l_ G_ cI cZ h_ a_ b_ d_ od_ wt_ dr_ sp_ j_ (by omega)) (cwV 1 hts gX2_copy_X2_waits rfl rfl rfl (by decide +kernel) ⟨Nat.le_of_ble_eq_true rfl, Nat.le_of_ble_eq_true rfl⟩) (hP_.sub (ws' := [(h_, .inr (2, [.ref a_, .ref b_, .ref d_, .int (iI ((sp_ : Nat) : Int))])), (a_, .inl (cI, 48, .inl (aN od_))), (b_, .inl (cZ, 48, .inl (aB wt_))), (d_, .inl (cZ, 48, .inl (aB dr_)))]) [0, 1, 2, 3] rfl) hK_ 0 rfl rfl rfl hl_.1 rfl (Nat.le_of_ble_eq_true rfl) dX2_copy_2 ⟨Nat.zero_le _, Nat.zero_le _⟩ ?_
  refine q_bf (tgt := 44) hx_ hb_ dX2_copy_5 (by decide) (fun c5_ => absurd c5_ (by rw [hw_]; decide)) (fun c5_ => ?_)
  refine lv_aload_n hx_ hb_ dX2_copy_8 rfl (lv_at hl_ 0 rfl) ?_
  refine va_get (D := G_) (ci := 2) (v := .int (iI ((sp_ : Nat) : Int))) (C := RX2) (T := TX2) (N := 4) hx_ hb_ hts hi2_ hown hK_ hP_ 0 rfl rfl 3 (by decide) hf22_ (fun _ h9 => h9) rfl dX2_copy_9 ?_
  refine lv_bipush (v := iI ((48 : Nat) : Int)) hx_ hb_ dX2_copy_12 rfl ?_
  refine q_icmp_ge (tgt := 44) hx_ hb_ dX2_copy_14 (by decide) (⟨by omega, by omega⟩) (⟨by decide, by decide⟩) (fun c14_ => absurd c14_ (by omega)) (fun c14_ => ?_)
  refine lv_aload_n hx_ hb_ dX2_copy_17 rfl (lv_at hl_ 0 rfl) ?_
  refine va_get (D := G_) (ci := 2) (v := .ref b_) (C := RX2) (T := TX2) (N := 4) hx_ hb_ hts hi2_ hown hK_ hP_ 0 rfl rfl 1 (by decide) hf15_ (fun _ h9 => h9) rfl dX2_copy_18 ?_
  refine lv_iload_n hx_ hb_ dX2_copy_21 rfl (lv_at hl_ 1 rfl) ?_
  refine lv_iconst (v := iI ((0 : Nat) : Int)) hx_ hb_ dX2_copy_22 rfl ?_
  refine q_cast (b := bZ (false)) rfl ?_
  refine q_zst hx_ hb_ hK_ hP_ hD_ hS_ 2 rfl (by decide) (j_) (by omega) (false) dX2_copy_23 (ws' := [(h_, .inr (2, [.ref a_, .ref b_, .ref d_, .int (iI ((sp_ : Nat) : Int))])), (a_, .inl (cI, 48, .inl (aN od_))), (b_, .inl (cZ, 48, .inl (aB (va_up wt_ j_ false)))), (d_, .inl (cZ, 48, .inl (aB dr_)))]) rfl (fun H_ locs hP_ hD_ hS_ => ?_)
  refine lv_aload_n hx_ hb_ dX2_copy_24 rfl (lv_at hl_ 0 rfl) ?_
  refine va_get (D := G_) (ci := 2) (v := .ref a_) (C := RX2) (T := TX2) (N := 4) hx_ hb_ hts hi2_ hown hK_ hP_ 0 rfl rfl 0 (by decide) hf9_ (fun _ h9 => h9) rfl dX2_copy_25 ?_
  refine lv_aload_n hx_ hb_ dX2_copy_28 rfl (lv_at hl_ 0 rfl) ?_
  refine va_get (D := G_) (ci := 2) (v := .int (iI ((sp_ : Nat) : Int))) (C := RX2) (T := TX2) (N := 4) hx_ hb_ hts hi2_ hown hK_ hP_ 0 rfl rfl 3 (by decide) hf22_ (fun _ h9 => h9) rfl dX2_copy_29 ?_
  refine lv_iload_n hx_ hb_ dX2_copy_32 rfl (lv_at hl_ 1 rfl) ?_
  refine q_istN hx_ hb_ hK_ hP_ hD_ hS_ 1 rfl (by decide) (sp_) (by omega) (j_) dX2_copy_33 (ws' := [(h_, .inr (2, [.ref a_, .ref b_, .ref d_, .int (iI ((sp_ : Nat) : Int))])), (a_, .inl (cI, 48, .inl (aN (va_up od_ sp_ j_)))), (b_, .inl (cZ, 48, .inl (aB (va_up wt_ j_ false)))), (d_, .inl (cZ, 48, .inl (aB dr_)))]) rfl (fun H_ locs hP_ hD_ hS_ => ?_)
  refine lv_aload_n hx_ hb_ dX2_copy_34 rfl (lv_at hl_ 0 rfl) ?_
  refine lv_dup hx_ hb_ dX2_copy_35 rfl ?_
  refine va_get (D := G_) (ci := 2) (v := .int (iI ((sp_ : Nat) : Int))) (C := RX2) (T := TX2) (N := 4) hx_ hb_ hts hi2_ hown hK_ hP_ 0 rfl rfl 3 (by decide) hf22_ (fun _ h9 => h9) rfl dX2_copy_36 ?_
  refine lv_iconst (v := iI ((1 : Nat) : Int)) hx_ hb_ dX2_copy_39 rfl ?_
  refine q_iaddN hx_ hb_ dX2_copy_40 ?_
  refine va_put (D := G_) (ci := 2) (v := .int (iI ((sp_ + 1 : Nat) : Int))) (ty := .int) (C := RX2) (T := TX2) (N := 4) hx_ hb_ hts hi2_ tyX2 tyX2_ok nmX2 hown hK_ hP_ hD_ hS_ 0 rfl rfl 3 (by decide) hf22_ (fun _ h9 => h9) rfl (by decide +kernel) rfl rfl (Nat.le_of_ble_eq_true rfl) dX2_copy_41 (fun H_ locs hP_ hD_ hS_ => ?_)
  have hP_ : va_P G_ vwCl [(h_, .inr (2, [.ref a_, .ref b_, .ref d_, .int (iI ((sp_ + 1 : Nat) : Int))])), (a_, .inl (cI, 48, .inl (aN (va_up od_ sp_ j_)))), (b_, .inl (cZ, 48, .inl (aB (va_up wt_ j_ false)))), (d_, .inl (cZ, 48, .inl (aB dr_)))] H_ := hP_
  have hD_ : va_D A_ [(h_, .inr (2, [.ref a_, .ref b_, .ref d_, .int (iI ((sp_ + 1 : Nat) : Int))])), (a_, .inl (cI, 48, .inl (aN (va_up od_ sp_ j_)))), (b_, .inl (cZ, 48, .inl (aB (va_up wt_ j_ false)))), (d_, .inl (cZ, 48, .inl (aB dr_)))] := hD_
  rw [← hQe]
  exact W.vret hx_ hb_ hr (fun tt1 htt1 hWW1 => ⟨⟨(), rfl, trivial, by show va_P G_ vwCl _ tt1.heap; rw [htt1]; exact hP_⟩, hS_.F htt1⟩) hS_.2.2 dX2_copy_44

set_option maxHeartbeats 4000000 in
set_option maxRecDepth 100000 in
/-- CopyOrder.drop -/
theorem c_X2_drop (l_ : Launch) (G_ : va_G) (cI cZ : ClassId) (h_ a_ b_ d_ : Nat) (od_ : Nat → Nat) (wt_ dr_ : Nat → Bool) (sp_ : Nat) (j_ : Nat) (hj_ : j_ < 48) (hw_ : wt_ j_ = true) (sz : Nat) : Wr (S := Unit) l_ yX2_drop wsX2_drop ({ frames := 1, cells := 0, slots := 0, locals := 21 }) G_ cI cZ [.ref h_, .int (iI ((j_ : Nat) : Int))] (wCo cI cZ h_ a_ b_ d_ od_ wt_ dr_ sp_) sz (fun _ => True) (fun _ => wCo cI cZ h_ a_ b_ d_ od_ (va_up wt_ j_ false) (va_up dr_ j_ true) sp_) := by
  refine Met.ofW (cc := cX2_drop) (maxL := 2) (ret := (none)) (by decide) rfl ?_
  intro p_ e_ s_ m_ args below meth c_ s₁ B hml hv
  obtain ⟨hargs, hsz, hP_, hK_, hD0⟩ := hv
  have hx_ := B.exec
  have hb_ := B.bytes
  have hr := B.returns
  have hts := atoms_spec (ws := wsX2_drop) B.pre
  have hown : s_.vm.findClass RX2 = some m_.cls := findClass_of_methodNamed B.named
  have hlocks := B.notSynchronized
  have hi2_ : ∀ w_ ∈ wsX20, w_ ∈ wsX2_drop := by decide +kernel
  have hf15_ := hts (.fieldLink RX2 15 "RelocatingPatch$CopyOrder" "waiting" "[Z") (by decide +kernel)
  have hf19_ := hts (.fieldLink RX2 19 "RelocatingPatch$CopyOrder" "dropped" "[Z") (by decide +kernel)
  subst hsz
  have hD_ := hD0.self (sz := s_.heap.size)
  generalize hAe : va_A (wCo cI cZ h_ a_ b_ d_ od_ wt_ dr_ sp_) s_.heap.size = A_ at hD_ ⊢
  have hA_ : ∀ q_ : Nat, s_.heap.size ≤ q_ → A_ q_ := fun q_ h_ => by rw [← hAe]; exact Or.inr h_
  have hS_ : va_S A_ s_.heap s_.heap [] := va_S.rf
  have hP_ : va_P G_ vwCl [(h_, .inr (2, [.ref a_, .ref b_, .ref d_, .int (iI ((sp_ : Nat) : Int))])), (a_, .inl (cI, 48, .inl (aN od_))), (b_, .inl (cZ, 48, .inl (aB wt_))), (d_, .inl (cZ, 48, .inl (aB dr_)))] s_.heap := hP_
  have hD_ : va_D A_ [(h_, .inr (2, [.ref a_, .ref b_, .ref d_, .int (iI ((sp_ : Nat) : Int))])), (a_, .inl (cI, 48, .inl (aN od_))), (b_, .inl (cZ, 48, .inl (aB wt_))), (d_, .inl (cZ, 48, .inl (aB dr_)))] := hD_
  generalize hQe : MQ below (va_Qv (S := Unit) (fun _ => True) (fun u1 t1 => va_P G_ vwCl ((fun _ => wCo cI cZ h_ a_ b_ d_ od_ (va_up wt_ j_ false) (va_up dr_ j_ true) sp_) u1) t1.heap) A_) args s_ 0 0 A_ = Q_
  rw [show entryFrame m_ args 2 = entryFrame m_ ([.ref h_, .int (iI ((j_ : Nat) : Int))] : List Value).toArray 2 from by rw [hargs], lg_entry_eq]
  have hl_ := lv_entry ([.ref h_, .int (iI ((j_ : Nat) : Int))]) (n := 2) (Nat.le_of_ble_eq_true rfl)
  generalize (lg_sl ([.ref h_, .int (iI ((j_ : Nat) : Int))]) ++ List.replicate (2 - (lg_sl ([.ref h_, .int (iI ((j_ : Nat) : Int))])).length) Slot.unset).toArray = ls_ at hl_ ⊢
  have hl_ : lv_has ls_ 2 [(0, .ref h_), (1, .int (iI ((j_ : Nat) : Int)))] := hl_
  refine lv_aload_n hx_ hb_ dX2_drop_0 rfl (lv_at hl_ 0 rfl) ?_
  refine lv_iload_n hx_ hb_ dX2_drop_1 rfl (lv_at hl_ 1 rfl) ?_
  refine ro_V (As := [.int (iI ((j_ : Nat) : Int))]) (rest := []) ⟨hx_, hb_, hml, hown, hts⟩ (c_X2_waits l_ G_ cI cZ h_ a_ b_ d_ od_ wt_ dr_ sp_ j_ (by omega)) (cwV 1 hts gX2_drop_X2_waits rfl rfl rfl (by decide +kernel) ⟨Nat.le_of_ble_eq_true rfl, Nat.le_of_ble_eq_true rfl⟩) (hP_.sub (ws' := [(h_, .inr (2, [.ref a_, .ref b_, .ref d_, .int (iI ((sp_ : Nat) : Int))])), (a_, .inl (cI, 48, .inl (aN od_))), (b_, .inl (cZ, 48, .inl (aB wt_))), (d_, .inl (cZ, 48, .inl (aB dr_)))]) [0, 1, 2, 3] rfl) hK_ 0 rfl rfl rfl hl_.1 rfl (Nat.le_of_ble_eq_true rfl) dX2_drop_2 ⟨Nat.zero_le _, Nat.zero_le _⟩ ?_
  refine q_bf (tgt := 22) hx_ hb_ dX2_drop_5 (by decide) (fun c5_ => absurd c5_ (by rw [hw_]; decide)) (fun c5_ => ?_)
  refine lv_aload_n hx_ hb_ dX2_drop_8 rfl (lv_at hl_ 0 rfl) ?_
  refine va_get (D := G_) (ci := 2) (v := .ref b_) (C := RX2) (T := TX2) (N := 4) hx_ hb_ hts hi2_ hown hK_ hP_ 0 rfl rfl 1 (by decide) hf15_ (fun _ h9 => h9) rfl dX2_drop_9 ?_
  refine lv_iload_n hx_ hb_ dX2_drop_12 rfl (lv_at hl_ 1 rfl) ?_
  refine lv_iconst (v := iI ((0 : Nat) : Int)) hx_ hb_ dX2_drop_13 rfl ?_
  refine q_cast (b := bZ (false)) rfl ?_
  refine q_zst hx_ hb_ hK_ hP_ hD_ hS_ 2 rfl (by decide) (j_) (by omega) (false) dX2_drop_14 (ws' := [(h_, .inr (2, [.ref a_, .ref b_, .ref d_, .int (iI ((sp_ : Nat) : Int))])), (a_, .inl (cI, 48, .inl (aN od_))), (b_, .inl (cZ, 48, .inl (aB (va_up wt_ j_ false)))), (d_, .inl (cZ, 48, .inl (aB dr_)))]) rfl (fun H_ locs hP_ hD_ hS_ => ?_)
  refine lv_aload_n hx_ hb_ dX2_drop_15 rfl (lv_at hl_ 0 rfl) ?_
  refine va_get (D := G_) (ci := 2) (v := .ref d_) (C := RX2) (T := TX2) (N := 4) hx_ hb_ hts hi2_ hown hK_ hP_ 0 rfl rfl 2 (by decide) hf19_ (fun _ h9 => h9) rfl dX2_drop_16 ?_
  refine lv_iload_n hx_ hb_ dX2_drop_19 rfl (lv_at hl_ 1 rfl) ?_
  refine lv_iconst (v := iI ((1 : Nat) : Int)) hx_ hb_ dX2_drop_20 rfl ?_
  refine q_cast (b := bZ (true)) rfl ?_
  refine q_zst hx_ hb_ hK_ hP_ hD_ hS_ 3 rfl (by decide) (j_) (by omega) (true) dX2_drop_21 (ws' := [(h_, .inr (2, [.ref a_, .ref b_, .ref d_, .int (iI ((sp_ : Nat) : Int))])), (a_, .inl (cI, 48, .inl (aN od_))), (b_, .inl (cZ, 48, .inl (aB (va_up wt_ j_ false)))), (d_, .inl (cZ, 48, .inl (aB (va_up dr_ j_ true))))]) rfl (fun H_ locs hP_ hD_ hS_ => ?_)
  rw [← hQe]
  exact W.vret hx_ hb_ hr (fun tt1 htt1 hWW1 => ⟨⟨(), rfl, trivial, by show va_P G_ vwCl _ tt1.heap; rw [htt1]; exact hP_⟩, hS_.F htt1⟩) hS_.2.2 dX2_drop_22

set_option maxHeartbeats 4000000 in
set_option maxRecDepth 100000 in
/-- CopyOrder.arrange -/
theorem c_X2_arrange (l_ : Launch) (G_ : va_G) (cI cZ : ClassId) (h_ a_ b_ d_ : Nat) (od_ : Nat → Nat) (wt_ dr_ : Nat → Bool) (sp_ : Nat) (h2_ a2_ b2_ d2_ : Nat) (k_ : Nat) (os_ ns_ ln_ : Nat → Nat) (hk_ : k_ ≤ 48) (hB_ : B48 k_ os_ ns_ ln_) (sz : Nat) : Wr (S := (Nat → Nat) × (Nat → Bool) × (Nat → Bool) × Nat) l_ yX2_arrange wsX2_arrange ({ frames := 5, cells := 0, slots := 0, locals := 109 }) G_ cI cZ [.ref h_, .ref h2_] (wCo cI cZ h_ a_ b_ d_ od_ wt_ dr_ sp_ ++ wBl cI h2_ a2_ b2_ d2_ k_ os_ ns_ ln_) sz (fun u_ => CoR k_ os_ ns_ ln_ k_ u_.2.1 u_.2.2.1 u_.1 u_.2.2.2) (fun u_ => wCo cI cZ h_ a_ b_ d_ u_.1 u_.2.1 u_.2.2.1 u_.2.2.2 ++ wBl cI h2_ a2_ b2_ d2_ k_ os_ ns_ ln_) := by
  refine Met.ofW (cc := cX2_arrange) (maxL := 4) (ret := (none)) (by decide) rfl ?_
  intro p_ e_ s_ m_ args below meth c_ s₁ B hml hv
  obtain ⟨hargs, hsz, hP_, hK_, hD0⟩ := hv
  have hx_ := B.exec
  have hb_ := B.bytes
  have hr := B.returns
  have hts := atoms_spec (ws := wsX2_arrange) B.pre
  have hown : s_.vm.findClass RX2 = some m_.cls := findClass_of_methodNamed B.named
  have hlocks := B.notSynchronized
  have hi2_ : ∀ w_ ∈ wsX20, w_ ∈ wsX2_arrange := by decide +kernel
  have hf15_ := hts (.fieldLink RX2 15 "RelocatingPatch$CopyOrder" "waiting" "[Z") (by decide +kernel)
  have hf19_ := hts (.fieldLink RX2 19 "RelocatingPatch$CopyOrder" "dropped" "[Z") (by decide +kernel)
  have hf22_ := hts (.fieldLink RX2 22 "RelocatingPatch$CopyOrder" "steps" "I") (by decide +kernel)
  subst hsz
  have hD_ := hD0.self (sz := s_.heap.size)
  generalize hAe : va_A (wCo cI cZ h_ a_ b_ d_ od_ wt_ dr_ sp_ ++ wBl cI h2_ a2_ b2_ d2_ k_ os_ ns_ ln_) s_.heap.size = A_ at hD_ ⊢
  have hA_ : ∀ q_ : Nat, s_.heap.size ≤ q_ → A_ q_ := fun q_ h_ => by rw [← hAe]; exact Or.inr h_
  have hS_ : va_S A_ s_.heap s_.heap [] := va_S.rf
  have hP_ : va_P G_ vwCl [(h_, .inr (2, [.ref a_, .ref b_, .ref d_, .int (iI ((sp_ : Nat) : Int))])), (a_, .inl (cI, 48, .inl (aN od_))), (b_, .inl (cZ, 48, .inl (aB wt_))), (d_, .inl (cZ, 48, .inl (aB dr_))), (h2_, .inr (1, [.ref a2_, .ref b2_, .ref d2_, .int (iI ((k_ : Nat) : Int))])), (a2_, .inl (cI, 48, .inl (aN os_))), (b2_, .inl (cI, 48, .inl (aN ns_))), (d2_, .inl (cI, 48, .inl (aN ln_)))] s_.heap := hP_
  have hD_ : va_D A_ [(h_, .inr (2, [.ref a_, .ref b_, .ref d_, .int (iI ((sp_ : Nat) : Int))])), (a_, .inl (cI, 48, .inl (aN od_))), (b_, .inl (cZ, 48, .inl (aB wt_))), (d_, .inl (cZ, 48, .inl (aB dr_))), (h2_, .inr (1, [.ref a2_, .ref b2_, .ref d2_, .int (iI ((k_ : Nat) : Int))])), (a2_, .inl (cI, 48, .inl (aN os_))), (b2_, .inl (cI, 48, .inl (aN ns_))), (d2_, .inl (cI, 48, .inl (aN ln_)))] := hD_
  generalize hQe : MQ below (va_Qv (S := (Nat → Nat) × (Nat → Bool) × (Nat → Bool) × Nat) (fun u_ => CoR k_ os_ ns_ ln_ k_ u_.2.1 u_.2.2.1 u_.1 u_.2.2.2) (fun u1 t1 => va_P G_ vwCl ((fun u_ => wCo cI cZ h_ a_ b_ d_ u_.1 u_.2.1 u_.2.2.1 u_.2.2.2 ++ wBl cI h2_ a2_ b2_ d2_ k_ os_ ns_ ln_) u1) t1.heap) A_) args s_ 0 0 A_ = Q_
  have lp39 : ∀ (n_ : Nat) (r_ : Nat) (od_ : Nat → Nat) (wt_ : Nat → Bool) (dr_ : Nat → Bool) (sp_ : Nat) (H_ : Heap) (locs : List Loc) (ls_ : Array Slot), (r_ ≤ k_) → (k_ + 1 ≤ r_ + n_) → (CoR k_ os_ ns_ ln_ r_ wt_ dr_ od_ sp_) → va_P G_ vwCl [(h_, .inr (2, [.ref a_, .ref b_, .ref d_, .int (iI ((sp_ : Nat) : Int))])), (a_, .inl (cI, 48, .inl (aN od_))), (b_, .inl (cZ, 48, .inl (aB wt_))), (d_, .inl (cZ, 48, .inl (aB dr_))), (h2_, .inr (1, [.ref a2_, .ref b2_, .ref d2_, .int (iI ((k_ : Nat) : Int))])), (a2_, .inl (cI, 48, .inl (aN os_))), (b2_, .inl (cI, 48, .inl (aN ns_))), (d2_, .inl (cI, 48, .inl (aN ln_)))] H_ → va_D A_ [(h_, .inr (2, [.ref a_, .ref b_, .ref d_, .int (iI ((sp_ : Nat) : Int))])), (a_, .inl (cI, 48, .inl (aN od_))), (b_, .inl (cZ, 48, .inl (aB wt_))), (d_, .inl (cZ, 48, .inl (aB dr_))), (h2_, .inr (1, [.ref a2_, .ref b2_, .ref d2_, .int (iI ((k_ : Nat) : Int))])), (a2_, .inl (cI, 48, .inl (aN os_))), (b2_, .inl (cI, 48, .inl (aN ns_))), (d2_, .inl (cI, 48, .inl (aN ln_)))] → va_S A_ s_.heap H_ locs → lv_has ls_ 4 [(0, .ref h_), (1, .ref h2_), (2, .int (iI ((r_ : Nat) : Int)))] → W p_ l_ e_ (headSpec wsX2_arrange ({ frames := 5, cells := 0, slots := 0, locals := 109 })).room s_ m_ args below meth c_ H_ locs 0 0 Q_ (F0 m_ 39 ls_ []) := by
    intro n_
    induction n_ with
    | zero =>
      intro r_ od_ wt_ dr_ sp_ H_ locs ls_ hr0_ hn_ hc_
      exact False.elim (by omega)
    | succ n_ ih_ =>
      intro r_ od_ wt_ dr_ sp_ H_ locs ls_ hr0_ hn_ hc_ hP_ hD_ hS_ hl_
      have hsp : sp_ ≤ r_ := by rw [hc_.2.2.2]; exact (its_ok k_ os_ ns_ ln_ r_).1
      refine lv_iload_n hx_ hb_ dX2_arrange_39 rfl (lv_at hl_ 2 rfl) ?_
      refine lv_aload_n hx_ hb_ dX2_arrange_40 rfl (lv_at hl_ 1 rfl) ?_
      refine ro_V (As := []) (rest := [.int (iI ((r_ : Nat) : Int))]) ⟨hx_, hb_, hml, hown, hts⟩ (c_X1_size l_ G_ cI cZ h2_ a2_ b2_ d2_ k_ os_ ns_ ln_) (cwV 0 hts gX2_arrange_X1_size rfl rfl rfl (by decide +kernel) ⟨Nat.le_of_ble_eq_true rfl, Nat.le_of_ble_eq_true rfl⟩) (hP_.sub (ws' := [(h2_, .inr (1, [.ref a2_, .ref b2_, .ref d2_, .int (iI ((k_ : Nat) : Int))])), (a2_, .inl (cI, 48, .inl (aN os_))), (b2_, .inl (cI, 48, .inl (aN ns_))), (d2_, .inl (cI, 48, .inl (aN ln_)))]) [4, 5, 6, 7] rfl) hK_ 0 rfl rfl rfl hl_.1 rfl (Nat.le_of_ble_eq_true rfl) dX2_arrange_41 ⟨Nat.zero_le _, Nat.zero_le _⟩ ?_
      refine q_icmp_ge (tgt := 81) hx_ hb_ dX2_arrange_44 (by decide) (⟨by omega, by omega⟩) (⟨by omega, by omega⟩) (fun c44_ => ?_) (fun c44_ => ?_)
      · skip
        rw [← hQe]
        exact W.vret hx_ hb_ hr (fun tt1 htt1 hWW1 => ⟨⟨(od_, wt_, dr_, sp_), rfl, by have e0 : r_ = k_ := (by omega); rw [e0] at hc_; exact hc_, by show va_P G_ vwCl _ tt1.heap; rw [htt1]; exact hP_⟩, hS_.F htt1⟩) hS_.2.2 dX2_arrange_81
      · skip
        refine lv_aload_n hx_ hb_ dX2_arrange_47 rfl (lv_at hl_ 0 rfl) ?_
        refine lv_aload_n hx_ hb_ dX2_arrange_48 rfl (lv_at hl_ 1 rfl) ?_
        refine ro_V (As := [.ref h2_]) (rest := []) ⟨hx_, hb_, hml, hown, hts⟩ (c_X2_firstReady l_ G_ cI cZ h_ a_ b_ d_ od_ wt_ dr_ sp_ h2_ a2_ b2_ d2_ k_ os_ ns_ ln_ (by omega) (hB_)) (cwV 1 hts gX2_arrange_X2_firstReady rfl rfl rfl (by decide +kernel) ⟨Nat.le_of_ble_eq_true rfl, Nat.le_of_ble_eq_true rfl⟩) (hP_.sub (ws' := [(h_, .inr (2, [.ref a_, .ref b_, .ref d_, .int (iI ((sp_ : Nat) : Int))])), (a_, .inl (cI, 48, .inl (aN od_))), (b_, .inl (cZ, 48, .inl (aB wt_))), (d_, .inl (cZ, 48, .inl (aB dr_))), (h2_, .inr (1, [.ref a2_, .ref b2_, .ref d2_, .int (iI ((k_ : Nat) : Int))])), (a2_, .inl (cI, 48, .inl (aN os_))), (b2_, .inl (cI, 48, .inl (aN ns_))), (d2_, .inl (cI, 48, .inl (aN ln_)))]) [0, 1, 2, 3, 4, 5, 6, 7] rfl) hK_ 0 rfl rfl rfl hl_.1 rfl (Nat.le_of_ble_eq_true rfl) dX2_arrange_49 ⟨Nat.zero_le _, Nat.zero_le _⟩ ?_
        refine lv_istore_n (lv' := [(3, .int (iI (wI (frd k_ os_ ns_ ln_ wt_) k_ (-1)))), (0, .ref h_), (1, .ref h2_), (2, .int (iI ((r_ : Nat) : Int)))]) hx_ hb_ dX2_arrange_52 rfl hl_ (by decide) rfl (fun ls_ hl_ => ?_)
        refine lv_iload_n hx_ hb_ dX2_arrange_53 rfl (lv_at hl_ 0 rfl) ?_
        refine lv_iconst (v := iI (-1)) hx_ hb_ dX2_arrange_54 rfl ?_
        refine q_icmp_eq (tgt := 66) hx_ hb_ dX2_arrange_55 (by decide) (wI_R hk_ ⟨by decide, by decide⟩) (⟨by decide, by decide⟩) (fun c55_ => ?_) (fun c55_ => ?_)
        · skip
          have hfr := wI_nlt (by decide) c55_
          obtain ⟨g_, hgs⟩ := shw_some (os := os_) (ns := ns_) (show r_ < k_ from by omega) hc_.1
          have hgl := bst_lt hgs
          refine lv_aload_n hx_ hb_ dX2_arrange_66 rfl (lv_at hl_ 1 rfl) ?_
          refine lv_aload_n hx_ hb_ dX2_arrange_67 rfl (lv_at hl_ 1 rfl) ?_
          refine lv_aload_n hx_ hb_ dX2_arrange_68 rfl (lv_at hl_ 2 rfl) ?_
          refine ro_V (As := [.ref h2_]) (rest := [.ref h_]) ⟨hx_, hb_, hml, hown, hts⟩ (c_X2_shortestWaiting l_ G_ cI cZ h_ a_ b_ d_ od_ wt_ dr_ sp_ h2_ a2_ b2_ d2_ k_ os_ ns_ ln_ (by omega) (hB_)) (cwV 1 hts gX2_arrange_X2_shortestWaiting rfl rfl rfl (by decide +kernel) ⟨Nat.le_of_ble_eq_true rfl, Nat.le_of_ble_eq_true rfl⟩) (hP_.sub (ws' := [(h_, .inr (2, [.ref a_, .ref b_, .ref d_, .int (iI ((sp_ : Nat) : Int))])), (a_, .inl (cI, 48, .inl (aN od_))), (b_, .inl (cZ, 48, .inl (aB wt_))), (d_, .inl (cZ, 48, .inl (aB dr_))), (h2_, .inr (1, [.ref a2_, .ref b2_, .ref d2_, .int (iI ((k_ : Nat) : Int))])), (a2_, .inl (cI, 48, .inl (aN os_))), (b2_, .inl (cI, 48, .inl (aN ns_))), (d2_, .inl (cI, 48, .inl (aN ln_)))]) [0, 1, 2, 3, 4, 5, 6, 7] rfl) hK_ 0 rfl rfl rfl hl_.1 rfl (Nat.le_of_ble_eq_true rfl) dX2_arrange_69 ⟨Nat.zero_le _, Nat.zero_le _⟩ ?_
          refine q_cast (b := ((g_ : Nat) : Int)) (by rw [hgs]; rfl) ?_
          refine wr_V (As := [.int (iI ((g_ : Nat) : Int))]) (rest := []) (wr := [(h2_, .inr (1, [.ref a2_, .ref b2_, .ref d2_, .int (iI ((k_ : Nat) : Int))])), (a2_, .inl (cI, 48, .inl (aN os_))), (b2_, .inl (cI, 48, .inl (aN ns_))), (d2_, .inl (cI, 48, .inl (aN ln_)))]) (wn := fun u_ => [(h_, .inr (2, [.ref a_, .ref b_, .ref d_, .int (iI ((sp_ : Nat) : Int))])), (a_, .inl (cI, 48, .inl (aN od_))), (b_, .inl (cZ, 48, .inl (aB (va_up wt_ g_ false)))), (d_, .inl (cZ, 48, .inl (aB (va_up dr_ g_ true)))), (h2_, .inr (1, [.ref a2_, .ref b2_, .ref d2_, .int (iI ((k_ : Nat) : Int))])), (a2_, .inl (cI, 48, .inl (aN os_))), (b2_, .inl (cI, 48, .inl (aN ns_))), (d2_, .inl (cI, 48, .inl (aN ln_)))]) ⟨hx_, hb_, hml, hown, hts⟩ (c_X2_drop l_ G_ cI cZ h_ a_ b_ d_ od_ wt_ dr_ sp_ g_ (by omega) (hgl.2) H_.size) (cwV 1 hts gX2_arrange_X2_drop rfl rfl rfl (by decide +kernel) ⟨Nat.le_of_ble_eq_true rfl, Nat.le_of_ble_eq_true rfl⟩) hP_ hK_ hD_ hS_ hA_ [0, 1, 2, 3] [4, 5, 6, 7] [4, 5, 6, 7, 0, 1, 2, 3] rfl rfl (by decide) (fun _ => rfl) (fun _ => rfl) 0 rfl rfl rfl hl_.1 rfl (Nat.le_of_ble_eq_true rfl) dX2_arrange_72 ⟨Nat.zero_le _, Nat.zero_le _⟩ (fun u_ H_ locs hu72 hP_ hD_ hS_ => ?_)
          try dsimp only at hu72
          have hP_ : va_P G_ vwCl [(h_, .inr (2, [.ref a_, .ref b_, .ref d_, .int (iI ((sp_ : Nat) : Int))])), (a_, .inl (cI, 48, .inl (aN od_))), (b_, .inl (cZ, 48, .inl (aB (va_up wt_ g_ false)))), (d_, .inl (cZ, 48, .inl (aB (va_up dr_ g_ true)))), (h2_, .inr (1, [.ref a2_, .ref b2_, .ref d2_, .int (iI ((k_ : Nat) : Int))])), (a2_, .inl (cI, 48, .inl (aN os_))), (b2_, .inl (cI, 48, .inl (aN ns_))), (d2_, .inl (cI, 48, .inl (aN ln_)))] H_ := hP_
          have hD_ : va_D A_ [(h_, .inr (2, [.ref a_, .ref b_, .ref d_, .int (iI ((sp_ : Nat) : Int))])), (a_, .inl (cI, 48, .inl (aN od_))), (b_, .inl (cZ, 48, .inl (aB (va_up wt_ g_ false)))), (d_, .inl (cZ, 48, .inl (aB (va_up dr_ g_ true)))), (h2_, .inr (1, [.ref a2_, .ref b2_, .ref d2_, .int (iI ((k_ : Nat) : Int))])), (a2_, .inl (cI, 48, .inl (aN os_))), (b2_, .inl (cI, 48, .inl (aN ns_))), (d2_, .inl (cI, 48, .inl (aN ln_)))] := hD_
          refine q_iinc (k := 3) ((r_ + 1 : Nat) : Int) hx_ hb_ dX2_arrange_75 hl_ rfl (rfl) (by decide) (lv' := [(2, .int (iI ((r_ + 1 : Nat) : Int))), (3, .int (iI (wI (frd k_ os_ ns_ ln_ wt_) k_ (-1)))), (0, .ref h_), (1, .ref h2_)]) rfl (fun ls_ hl_ => ?_)
          refine lv_goto (tgt := 39) hx_ hb_ dX2_arrange_78 (by decide) ?_
          exact ih_ (r_ + 1) od_ (va_up wt_ g_ false) (va_up dr_ g_ true) sp_ _ _ ls_ (by omega) (by omega) (CoR_drop hc_ hfr hgs) hP_ hD_ hS_ (lv_sub hl_ [2, 3, 0] rfl)
        · skip
          have hfr := wI_ne c55_
          refine lv_aload_n hx_ hb_ dX2_arrange_58 rfl (lv_at hl_ 1 rfl) ?_
          refine lv_iload_n hx_ hb_ dX2_arrange_59 rfl (lv_at hl_ 0 rfl) ?_
          refine q_cast (b := ((frd k_ os_ ns_ ln_ wt_ : Nat) : Int)) (wI_hit hfr) ?_
          refine wr_V (As := [.int (iI ((frd k_ os_ ns_ ln_ wt_ : Nat) : Int))]) (rest := []) (wr := [(h2_, .inr (1, [.ref a2_, .ref b2_, .ref d2_, .int (iI ((k_ : Nat) : Int))])), (a2_, .inl (cI, 48, .inl (aN os_))), (b2_, .inl (cI, 48, .inl (aN ns_))), (d2_, .inl (cI, 48, .inl (aN ln_)))]) (wn := fun u_ => [(h_, .inr (2, [.ref a_, .ref b_, .ref d_, .int (iI ((sp_ + 1 : Nat) : Int))])), (a_, .inl (cI, 48, .inl (aN (va_up od_ sp_ (frd k_ os_ ns_ ln_ wt_))))), (b_, .inl (cZ, 48, .inl (aB (va_up wt_ (frd k_ os_ ns_ ln_ wt_) false)))), (d_, .inl (cZ, 48, .inl (aB dr_))), (h2_, .inr (1, [.ref a2_, .ref b2_, .ref d2_, .int (iI ((k_ : Nat) : Int))])), (a2_, .inl (cI, 48, .inl (aN os_))), (b2_, .inl (cI, 48, .inl (aN ns_))), (d2_, .inl (cI, 48, .inl (aN ln_)))]) ⟨hx_, hb_, hml, hown, hts⟩ (c_X2_copy l_ G_ cI cZ h_ a_ b_ d_ od_ wt_ dr_ sp_ (frd k_ os_ ns_ ln_ wt_) (by omega) (frd_wt hfr) (by omega) H_.size) (cwV 1 hts gX2_arrange_X2_copy rfl rfl rfl (by decide +kernel) ⟨Nat.le_of_ble_eq_true rfl, Nat.le_of_ble_eq_true rfl⟩) hP_ hK_ hD_ hS_ hA_ [0, 1, 2, 3] [4, 5, 6, 7] [4, 5, 6, 7, 0, 1, 2, 3] rfl rfl (by decide) (fun _ => rfl) (fun _ => rfl) 0 rfl rfl rfl hl_.1 rfl (Nat.le_of_ble_eq_true rfl) dX2_arrange_60 ⟨Nat.zero_le _, Nat.zero_le _⟩ (fun u_ H_ locs hu60 hP_ hD_ hS_ => ?_)
          try dsimp only at hu60
          have hP_ : va_P G_ vwCl [(h_, .inr (2, [.ref a_, .ref b_, .ref d_, .int (iI ((sp_ + 1 : Nat) : Int))])), (a_, .inl (cI, 48, .inl (aN (va_up od_ sp_ (frd k_ os_ ns_ ln_ wt_))))), (b_, .inl (cZ, 48, .inl (aB (va_up wt_ (frd k_ os_ ns_ ln_ wt_) false)))), (d_, .inl (cZ, 48, .inl (aB dr_))), (h2_, .inr (1, [.ref a2_, .ref b2_, .ref d2_, .int (iI ((k_ : Nat) : Int))])), (a2_, .inl (cI, 48, .inl (aN os_))), (b2_, .inl (cI, 48, .inl (aN ns_))), (d2_, .inl (cI, 48, .inl (aN ln_)))] H_ := hP_
          have hD_ : va_D A_ [(h_, .inr (2, [.ref a_, .ref b_, .ref d_, .int (iI ((sp_ + 1 : Nat) : Int))])), (a_, .inl (cI, 48, .inl (aN (va_up od_ sp_ (frd k_ os_ ns_ ln_ wt_))))), (b_, .inl (cZ, 48, .inl (aB (va_up wt_ (frd k_ os_ ns_ ln_ wt_) false)))), (d_, .inl (cZ, 48, .inl (aB dr_))), (h2_, .inr (1, [.ref a2_, .ref b2_, .ref d2_, .int (iI ((k_ : Nat) : Int))])), (a2_, .inl (cI, 48, .inl (aN os_))), (b2_, .inl (cI, 48, .inl (aN ns_))), (d2_, .inl (cI, 48, .inl (aN ln_)))] := hD_
          refine lv_goto (tgt := 75) hx_ hb_ dX2_arrange_63 (by decide) ?_
          refine q_iinc (k := 3) ((r_ + 1 : Nat) : Int) hx_ hb_ dX2_arrange_75 hl_ rfl (rfl) (by decide) (lv' := [(2, .int (iI ((r_ + 1 : Nat) : Int))), (3, .int (iI (wI (frd k_ os_ ns_ ln_ wt_) k_ (-1)))), (0, .ref h_), (1, .ref h2_)]) rfl (fun ls_ hl_ => ?_)
          refine lv_goto (tgt := 39) hx_ hb_ dX2_arrange_78 (by decide) ?_
          exact ih_ (r_ + 1) (va_up od_ sp_ (frd k_ os_ ns_ ln_ wt_)) (va_up wt_ (frd k_ os_ ns_ ln_ wt_) false) dr_ (sp_ + 1) _ _ ls_ (by omega) (by omega) (CoR_copy hc_ hfr) hP_ hD_ hS_ (lv_sub hl_ [2, 3, 0] rfl)
  have lp7 : ∀ (n_ : Nat) (i_ : Nat) (w1_ : Nat → Bool) (d1_ : Nat → Bool) (H_ : Heap) (locs : List Loc) (ls_ : Array Slot), (i_ ≤ 48) → (49 ≤ i_ + n_) → (∀ j_, j_ < i_ → w1_ j_ = decide (j_ < k_) ∧ d1_ j_ = false) → va_P G_ vwCl [(h_, .inr (2, [.ref a_, .ref b_, .ref d_, .int (iI ((0 : Nat) : Int))])), (a_, .inl (cI, 48, .inl (aN od_))), (b_, .inl (cZ, 48, .inl (aB w1_))), (d_, .inl (cZ, 48, .inl (aB d1_))), (h2_, .inr (1, [.ref a2_, .ref b2_, .ref d2_, .int (iI ((k_ : Nat) : Int))])), (a2_, .inl (cI, 48, .inl (aN os_))), (b2_, .inl (cI, 48, .inl (aN ns_))), (d2_, .inl (cI, 48, .inl (aN ln_)))] H_ → va_D A_ [(h_, .inr (2, [.ref a_, .ref b_, .ref d_, .int (iI ((0 : Nat) : Int))])), (a_, .inl (cI, 48, .inl (aN od_))), (b_, .inl (cZ, 48, .inl (aB w1_))), (d_, .inl (cZ, 48, .inl (aB d1_))), (h2_, .inr (1, [.ref a2_, .ref b2_, .ref d2_, .int (iI ((k_ : Nat) : Int))])), (a2_, .inl (cI, 48, .inl (aN os_))), (b2_, .inl (cI, 48, .inl (aN ns_))), (d2_, .inl (cI, 48, .inl (aN ln_)))] → va_S A_ s_.heap H_ locs → lv_has ls_ 4 [(0, .ref h_), (1, .ref h2_), (2, .int (iI ((i_ : Nat) : Int)))] → W p_ l_ e_ (headSpec wsX2_arrange ({ frames := 5, cells := 0, slots := 0, locals := 109 })).room s_ m_ args below meth c_ H_ locs 0 0 Q_ (F0 m_ 7 ls_ []) := by
    intro n_
    induction n_ with
    | zero =>
      intro i_ w1_ d1_ H_ locs ls_ hi_ hn_ hz
      exact False.elim (by omega)
    | succ n_ ih_ =>
      intro i_ w1_ d1_ H_ locs ls_ hi_ hn_ hz hP_ hD_ hS_ hl_
      refine lv_iload_n hx_ hb_ dX2_arrange_7 rfl (lv_at hl_ 2 rfl) ?_
      refine lv_bipush (v := iI ((48 : Nat) : Int)) hx_ hb_ dX2_arrange_8 rfl ?_
      refine q_icmp_ge (tgt := 37) hx_ hb_ dX2_arrange_10 (by decide) (⟨by omega, by omega⟩) (⟨by decide, by decide⟩) (fun c10_ => ?_) (fun c10_ => ?_)
      · skip
        refine lv_iconst (v := iI ((0 : Nat) : Int)) hx_ hb_ dX2_arrange_37 rfl ?_
        refine lv_istore_n (lv' := [(2, .int (iI ((0 : Nat) : Int))), (0, .ref h_), (1, .ref h2_)]) hx_ hb_ dX2_arrange_38 rfl hl_ (by decide) rfl (fun ls_ hl_ => ?_)
        exact lp39 (k_ + 1) 0 od_ w1_ d1_ 0 _ _ ls_ (by omega) (by omega) (⟨fun b_ hb_ => by rw [(hz b_ (by omega)).1]; simp [wtf, its, hb_], fun b_ hb_ => by rw [(hz b_ (by omega)).2]; simp [its], fun j_ hj_ => absurd hj_ (Nat.not_lt_zero _), rfl⟩) hP_ hD_ hS_ (lv_sub hl_ [1, 2, 0] rfl)
      · skip
        refine lv_aload_n hx_ hb_ dX2_arrange_13 rfl (lv_at hl_ 0 rfl) ?_
        refine va_get (D := G_) (ci := 2) (v := .ref b_) (C := RX2) (T := TX2) (N := 4) hx_ hb_ hts hi2_ hown hK_ hP_ 0 rfl rfl 1 (by decide) hf15_ (fun _ h9 => h9) rfl dX2_arrange_14 ?_
        refine lv_iload_n hx_ hb_ dX2_arrange_17 rfl (lv_at hl_ 2 rfl) ?_
        refine lv_aload_n hx_ hb_ dX2_arrange_18 rfl (lv_at hl_ 1 rfl) ?_
        refine lv_iload_n hx_ hb_ dX2_arrange_19 rfl (lv_at hl_ 2 rfl) ?_
        refine ro_V (As := [.int (iI ((i_ : Nat) : Int))]) (rest := [.int (iI ((i_ : Nat) : Int)), .ref b_]) ⟨hx_, hb_, hml, hown, hts⟩ (c_X1_has l_ G_ cI cZ h2_ a2_ b2_ d2_ k_ os_ ns_ ln_ ((i_ : Nat) : Int) (by omega) (by omega) (by omega)) (cwV 1 hts gX2_arrange_X1_has rfl rfl rfl (by decide +kernel) ⟨Nat.le_of_ble_eq_true rfl, Nat.le_of_ble_eq_true rfl⟩) (hP_.sub (ws' := [(h2_, .inr (1, [.ref a2_, .ref b2_, .ref d2_, .int (iI ((k_ : Nat) : Int))])), (a2_, .inl (cI, 48, .inl (aN os_))), (b2_, .inl (cI, 48, .inl (aN ns_))), (d2_, .inl (cI, 48, .inl (aN ln_)))]) [4, 5, 6, 7] rfl) hK_ 0 rfl rfl rfl hl_.1 rfl (Nat.le_of_ble_eq_true rfl) dX2_arrange_20 ⟨Nat.zero_le _, Nat.zero_le _⟩ ?_
        refine q_cast (b := bZ (decide (0 ≤ ((i_ : Nat) : Int) ∧ ((i_ : Nat) : Int) < ((k_ : Nat) : Int)))) rfl ?_
        refine q_zst hx_ hb_ hK_ hP_ hD_ hS_ 2 rfl (by decide) (i_) (by omega) (decide (0 ≤ ((i_ : Nat) : Int) ∧ ((i_ : Nat) : Int) < ((k_ : Nat) : Int))) dX2_arrange_23 (ws' := [(h_, .inr (2, [.ref a_, .ref b_, .ref d_, .int (iI ((0 : Nat) : Int))])), (a_, .inl (cI, 48, .inl (aN od_))), (b_, .inl (cZ, 48, .inl (aB (va_up w1_ i_ (decide (0 ≤ ((i_ : Nat) : Int) ∧ ((i_ : Nat) : Int) < ((k_ : Nat) : Int))))))), (d_, .inl (cZ, 48, .inl (aB d1_))), (h2_, .inr (1, [.ref a2_, .ref b2_, .ref d2_, .int (iI ((k_ : Nat) : Int))])), (a2_, .inl (cI, 48, .inl (aN os_))), (b2_, .inl (cI, 48, .inl (aN ns_))), (d2_, .inl (cI, 48, .inl (aN ln_)))]) rfl (fun H_ locs hP_ hD_ hS_ => ?_)
        refine lv_aload_n hx_ hb_ dX2_arrange_24 rfl (lv_at hl_ 0 rfl) ?_
        refine va_get (D := G_) (ci := 2) (v := .ref d_) (C := RX2) (T := TX2) (N := 4) hx_ hb_ hts hi2_ hown hK_ hP_ 0 rfl rfl 2 (by decide) hf19_ (fun _ h9 => h9) rfl dX2_arrange_25 ?_
        refine lv_iload_n hx_ hb_ dX2_arrange_28 rfl (lv_at hl_ 2 rfl) ?_
        refine lv_iconst (v := iI ((0 : Nat) : Int)) hx_ hb_ dX2_arrange_29 rfl ?_
        refine q_cast (b := bZ (false)) rfl ?_
        refine q_zst hx_ hb_ hK_ hP_ hD_ hS_ 3 rfl (by decide) (i_) (by omega) (false) dX2_arrange_30 (ws' := [(h_, .inr (2, [.ref a_, .ref b_, .ref d_, .int (iI ((0 : Nat) : Int))])), (a_, .inl (cI, 48, .inl (aN od_))), (b_, .inl (cZ, 48, .inl (aB (va_up w1_ i_ (decide (0 ≤ ((i_ : Nat) : Int) ∧ ((i_ : Nat) : Int) < ((k_ : Nat) : Int))))))), (d_, .inl (cZ, 48, .inl (aB (va_up d1_ i_ false)))), (h2_, .inr (1, [.ref a2_, .ref b2_, .ref d2_, .int (iI ((k_ : Nat) : Int))])), (a2_, .inl (cI, 48, .inl (aN os_))), (b2_, .inl (cI, 48, .inl (aN ns_))), (d2_, .inl (cI, 48, .inl (aN ln_)))]) rfl (fun H_ locs hP_ hD_ hS_ => ?_)
        refine q_iinc (k := 2) ((i_ + 1 : Nat) : Int) hx_ hb_ dX2_arrange_31 hl_ rfl (rfl) (by decide) (lv' := [(2, .int (iI ((i_ + 1 : Nat) : Int))), (0, .ref h_), (1, .ref h2_)]) rfl (fun ls_ hl_ => ?_)
        refine lv_goto (tgt := 7) hx_ hb_ dX2_arrange_34 (by decide) ?_
        exact ih_ (i_ + 1) (va_up w1_ i_ (decide (0 ≤ ((i_ : Nat) : Int) ∧ ((i_ : Nat) : Int) < ((k_ : Nat) : Int)))) (va_up d1_ i_ false) _ _ ls_ (by omega) (by omega) (fun j_ hj_ => by by_cases h0_ : j_ = i_; rw [h0_]; exact ⟨by simp only [va_up, if_pos]; exact decide_eq_decide.mpr ⟨fun h1_ => by omega, fun h1_ => by omega⟩, by simp [va_up]⟩; simp only [va_up, if_neg h0_]; exact hz j_ (by omega)) hP_ hD_ hS_ (lv_sub hl_ [1, 2, 0] rfl)
  rw [show entryFrame m_ args 4 = entryFrame m_ ([.ref h_, .ref h2_] : List Value).toArray 4 from by rw [hargs], lg_entry_eq]
  have hl_ := lv_entry ([.ref h_, .ref h2_]) (n := 4) (Nat.le_of_ble_eq_true rfl)
  generalize (lg_sl ([.ref h_, .ref h2_]) ++ List.replicate (4 - (lg_sl ([.ref h_, .ref h2_])).length) Slot.unset).toArray = ls_ at hl_ ⊢
  have hl_ : lv_has ls_ 4 [(0, .ref h_), (1, .ref h2_)] := hl_
  refine lv_aload_n hx_ hb_ dX2_arrange_0 rfl (lv_at hl_ 0 rfl) ?_
  refine lv_iconst (v := iI ((0 : Nat) : Int)) hx_ hb_ dX2_arrange_1 rfl ?_
  refine va_put (D := G_) (ci := 2) (v := .int (iI ((0 : Nat) : Int))) (ty := .int) (C := RX2) (T := TX2) (N := 4) hx_ hb_ hts hi2_ tyX2 tyX2_ok nmX2 hown hK_ hP_ hD_ hS_ 0 rfl rfl 3 (by decide) hf22_ (fun _ h9 => h9) rfl (by decide +kernel) rfl rfl (Nat.le_of_ble_eq_true rfl) dX2_arrange_2 (fun H_ locs hP_ hD_ hS_ => ?_)
  have hP_ : va_P G_ vwCl [(h_, .inr (2, [.ref a_, .ref b_, .ref d_, .int (iI ((0 : Nat) : Int))])), (a_, .inl (cI, 48, .inl (aN od_))), (b_, .inl (cZ, 48, .inl (aB wt_))), (d_, .inl (cZ, 48, .inl (aB dr_))), (h2_, .inr (1, [.ref a2_, .ref b2_, .ref d2_, .int (iI ((k_ : Nat) : Int))])), (a2_, .inl (cI, 48, .inl (aN os_))), (b2_, .inl (cI, 48, .inl (aN ns_))), (d2_, .inl (cI, 48, .inl (aN ln_)))] H_ := hP_
  have hD_ : va_D A_ [(h_, .inr (2, [.ref a_, .ref b_, .ref d_, .int (iI ((0 : Nat) : Int))])), (a_, .inl (cI, 48, .inl (aN od_))), (b_, .inl (cZ, 48, .inl (aB wt_))), (d_, .inl (cZ, 48, .inl (aB dr_))), (h2_, .inr (1, [.ref a2_, .ref b2_, .ref d2_, .int (iI ((k_ : Nat) : Int))])), (a2_, .inl (cI, 48, .inl (aN os_))), (b2_, .inl (cI, 48, .inl (aN ns_))), (d2_, .inl (cI, 48, .inl (aN ln_)))] := hD_
  refine lv_iconst (v := iI ((0 : Nat) : Int)) hx_ hb_ dX2_arrange_5 rfl ?_
  refine lv_istore_n (lv' := [(2, .int (iI ((0 : Nat) : Int))), (0, .ref h_), (1, .ref h2_)]) hx_ hb_ dX2_arrange_6 rfl hl_ (by decide) rfl (fun ls_ hl_ => ?_)
  exact lp7 (49) 0 wt_ dr_ _ _ ls_ (by omega) (by omega) (fun j_ hj_ => absurd hj_ (Nat.not_lt_zero _)) hP_ hD_ hS_ (lv_sub hl_ [1, 2, 0] rfl)
end
section
/-! runs of matching words, the best of them, the greedy choice -/
theorem vAt_in {n : Nat} {v : Nat → Int} {j : Nat} (h : j < n) : vAt n v (j : Int) = v j := by
  unfold vAt; rw [if_pos (by omega)]; rfl
theorem fAt_in {n : Nat} {f : Nat → Bool} {j : Nat} (h : j < n) : fAt n f (j : Int) = f j := by
  unfold fAt; rw [decide_eq_true (by omega)]; simp
theorem bZ_inj {a b : Bool} (h : bZ a = bZ b) : a = b := by
  cases a <;> cases b <;> first | rfl | exact absurd h (by decide)
def mtc (vo vn : Nat → Int) (fo fn : Nat → Bool) (o w : Nat) : Bool := if fo o = fn w then fo o || decide (vo o = vn w) else false
def Mf (no nn : Nat) (mt : Nat → Nat → Bool) (ot nt : Nat → Bool) (o w : Nat) : Bool := decide (o < no ∧ w < nn) && (!ot o && !nt w && mt o w)
theorem Mf_in {no nn : Nat} {mt : Nat → Nat → Bool} {ot nt : Nat → Bool} {o w : Nat} (ho : o < no) (hw : w < nn) : Mf no nn mt ot nt o w = (!ot o && !nt w && mt o w) := by
  unfold Mf; rw [decide_eq_true ⟨ho, hw⟩]; rfl
theorem Mf_lt {no nn : Nat} {mt : Nat → Nat → Bool} {ot nt : Nat → Bool} {o w : Nat} (h : Mf no nn mt ot nt o w = true) : o < no ∧ w < nn ∧ ot o = false ∧ nt w = false := by
  unfold Mf at h; simp at h; exact ⟨h.1.1, h.1.2, h.2.1.1, h.2.1.2⟩
theorem Mf_congr {no nn : Nat} {mt : Nat → Nat → Bool} {ot nt ot' nt' : Nat → Bool} (h1 : ∀ o, o < no → ot o = ot' o) (h2 : ∀ w, w < nn → nt w = nt' w) : Mf no nn mt ot nt = Mf no nn mt ot' nt' := by
  funext o w
  unfold Mf
  by_cases h : o < no ∧ w < nn
  · rw [h1 o h.1, h2 w h.2]
  · rw [decide_eq_false h]; rfl
def rl (M : Nat → Nat → Bool) : Nat → Nat → Nat → Nat
  | 0, _, _ => 0
  | m + 1, o, w => if M o w = true then rl M m (o + 1) (w + 1) + 1 else 0
def rn (M : Nat → Nat → Bool) (nn o w : Nat) : Nat := rl M (nn - w) o w
theorem rl_le (M : Nat → Nat → Bool) : ∀ m o w, rl M m o w ≤ m
  | 0, _, _ => Nat.le_refl _
  | m + 1, o, w => by
    have := rl_le M m (o + 1) (w + 1)
    unfold rl; split <;> omega
theorem rl_all (M : Nat → Nat → Bool) : ∀ m o w t, t < rl M m o w → M (o + t) (w + t) = true
  | 0, _, _, t, h => absurd h (Nat.not_lt_zero _)
  | m + 1, o, w, t, h => by
    unfold rl at h
    by_cases hM : M o w = true
    · rw [if_pos hM] at h
      cases t with
      | zero => exact hM
      | succ t =>
        have := rl_all M m (o + 1) (w + 1) t (by omega)
        rw [show o + (t + 1) = o + 1 + t from by omega, show w + (t + 1) = w + 1 + t from by omega]
        exact this
    · rw [if_neg hM] at h; exact absurd h (Nat.not_lt_zero _)
theorem rn_le (M : Nat → Nat → Bool) (nn o w : Nat) : rn M nn o w ≤ nn - w := rl_le M _ o w
theorem rn_all {M : Nat → Nat → Bool} {nn o w t : Nat} (h : t < rn M nn o w) : M (o + t) (w + t) = true := rl_all M _ o w t h
theorem rn_yes {M : Nat → Nat → Bool} {nn o w : Nat} (hw : w < nn) (h : M o w = true) : rn M nn o w = rn M nn (o + 1) (w + 1) + 1 := by
  unfold rn
  rw [show nn - w = (nn - (w + 1)) + 1 from by omega]
  show (if M o w = true then _ else _) = _
  rw [if_pos h]
theorem rn_no {M : Nat → Nat → Bool} {nn o w : Nat} (h : M o w = false) : rn M nn o w = 0 := by
  unfold rn
  cases hm : nn - w with
  | zero => rfl
  | succ m => show (if M o w = true then _ else _) = _; rw [if_neg (by rw [h]; decide)]
theorem rn_end (M : Nat → Nat → Bool) (nn o : Nat) {w : Nat} (h : nn ≤ w) : rn M nn o w = 0 := by
  unfold rn; rw [show nn - w = 0 from by omega]; rfl
def PB (no nn : Nat) (M : Nat → Nat → Bool) (Rg : Nat → Nat → Prop) (bl bn bo : Nat) : Prop :=
  (∀ w o, w < nn → o < no → Rg w o → rn M nn o w ≤ bl) ∧ (bl = 0 → bn = 0 ∧ bo = 0) ∧
  (0 < bl → bn < nn ∧ bo < no ∧ Rg bn bo ∧ rn M nn bo bn = bl ∧ ∀ w o, w < nn → o < no → Rg w o → rn M nn o w = bl → bn < w ∨ (bn = w ∧ bo ≤ o))
def RC (w0 o0 : Nat) : Nat → Nat → Prop := fun w o => w0 < w ∨ (w = w0 ∧ o < o0)
def RR (w0 o0 : Nat) : Nat → Nat → Prop := fun w o => w < w0 ∨ (w = w0 ∧ o < o0)
def RT : Nat → Nat → Prop := fun _ _ => True
theorem PB_le {no nn : Nat} {M : Nat → Nat → Bool} {Rg : Nat → Nat → Prop} {bl bn bo : Nat} (h : PB no nn M Rg bl bn bo) : bl ≤ nn ∧ (bn = 0 ∨ bn < nn) ∧ (bo = 0 ∨ bo < no) := by
  by_cases h0 : bl = 0
  · have := h.2.1 h0; omega
  · obtain ⟨h1, h2, h3, h4, h5⟩ := h.2.2 (by omega)
    have := rn_le M nn bo bn
    omega
theorem PB_uniq {no nn : Nat} {M : Nat → Nat → Bool} {Rg : Nat → Nat → Prop} {a b c a' b' c' : Nat} (h : PB no nn M Rg a b c) (h' : PB no nn M Rg a' b' c') : a = a' ∧ b = b' ∧ c = c' := by
  have hle : ∀ {a b c a' b' c' : Nat}, PB no nn M Rg a b c → PB no nn M Rg a' b' c' → a ≤ a' := by
    intro a b c a' b' c' h h'
    by_cases h0 : a = 0
    · omega
    · obtain ⟨q1, q2, q3, q4, q5⟩ := h.2.2 (by omega)
      have := h'.1 b c q1 q2 q3
      omega
  have e : a = a' := Nat.le_antisymm (hle h h') (hle h' h)
  subst e
  refine ⟨rfl, ?_⟩
  by_cases h0 : a = 0
  · have q1 := h.2.1 h0; have q2 := h'.2.1 h0; omega
  · obtain ⟨q1, q2, q3, q4, q5⟩ := h.2.2 (by omega)
    obtain ⟨r1, r2, r3, r4, r5⟩ := h'.2.2 (by omega)
    have u1 := q5 b' c' r1 r2 r3 r4
    have u2 := r5 b c q1 q2 q3 q4
    omega
theorem PB_set {no nn : Nat} {M : Nat → Nat → Bool} {Rg Rg' : Nat → Nat → Prop} {bl bn bo : Nat} (h : PB no nn M Rg bl bn bo) (he : ∀ w o, w < nn → o < no → (Rg w o ↔ Rg' w o)) : PB no nn M Rg' bl bn bo := by
  refine ⟨fun w o hw ho hr => h.1 w o hw ho ((he w o hw ho).mpr hr), h.2.1, fun h0 => ?_⟩
  obtain ⟨q1, q2, q3, q4, q5⟩ := h.2.2 h0
  exact ⟨q1, q2, (he _ _ q1 q2).mp q3, q4, fun w o hw ho hr => q5 w o hw ho ((he w o hw ho).mpr hr)⟩
theorem PB_0 {no nn : Nat} {M : Nat → Nat → Bool} {Rg : Nat → Nat → Prop} (h : ∀ w o, w < nn → o < no → ¬ Rg w o) : PB no nn M Rg 0 0 0 :=
  ⟨fun w o hw ho hr => absurd hr (h w o hw ho), fun _ => ⟨rfl, rfl⟩, fun h0 => absurd h0 (Nat.lt_irrefl _)⟩
/-- down the new words, up the old ones: the class's way -/
theorem PB_yes {no nn : Nat} {M : Nat → Nat → Bool} {w0 o0 bl bn bo : Nat} (h : PB no nn M (RC w0 o0) bl bn bo) (hw0 : w0 < nn) (ho0 : o0 < no) (hb : bl < rn M nn o0 w0 ∨ (rn M nn o0 w0 = bl ∧ w0 < bn)) : PB no nn M (RC w0 (o0 + 1)) (rn M nn o0 w0) w0 o0 := by
  have hpos : 0 < rn M nn o0 w0 := by
    rcases hb with hb | hb
    · omega
    · by_cases h0 : bl = 0
      · have := h.2.1 h0; omega
      · omega
  have hge : bl ≤ rn M nn o0 w0 := by omega
  refine ⟨fun w o hw ho hr => ?_, fun h0 => by omega, fun _ => ⟨hw0, ho0, Or.inr ⟨rfl, by omega⟩, rfl, fun w o hw ho hr he => ?_⟩⟩
  · by_cases hx : w = w0 ∧ o = o0
    · rw [hx.1, hx.2]; exact Nat.le_refl _
    · have hr : w0 < w ∨ (w = w0 ∧ o < o0 + 1) := hr
      exact Nat.le_trans (h.1 w o hw ho (show w0 < w ∨ (w = w0 ∧ o < o0) by omega)) hge
  · have hr : w0 < w ∨ (w = w0 ∧ o < o0 + 1) := hr
    by_cases hx : w0 < w
    · exact Or.inl hx
    · by_cases hy : o = o0
      · exact Or.inr ⟨by omega, by omega⟩
      · have hin : w0 < w ∨ (w = w0 ∧ o < o0) := by omega
        have h1 := h.1 w o hw ho hin
        have hbl : rn M nn o0 w0 = bl := by omega
        have h2 := (h.2.2 (by omega)).2.2.2.2 w o hw ho hin (by omega)
        rcases hb with hb | hb
        · omega
        · omega
theorem PB_keep {no nn : Nat} {M : Nat → Nat → Bool} {w0 o0 bl bn bo : Nat} (h : PB no nn M (RC w0 o0) bl bn bo) (hb : ¬ (bl < rn M nn o0 w0 ∨ (rn M nn o0 w0 = bl ∧ w0 < bn))) : PB no nn M (RC w0 (o0 + 1)) bl bn bo := by
  refine ⟨fun w o hw ho hr => ?_, h.2.1, fun h0 => ?_⟩
  · have hr : w0 < w ∨ (w = w0 ∧ o < o0 + 1) := hr
    by_cases hx : w = w0 ∧ o = o0
    · rw [hx.1, hx.2]; omega
    · exact h.1 w o hw ho (show w0 < w ∨ (w = w0 ∧ o < o0) by omega)
  · obtain ⟨q1, q2, q3, q4, q5⟩ := h.2.2 h0
    have q3 : w0 < bn ∨ (bn = w0 ∧ bo < o0) := q3
    refine ⟨q1, q2, show w0 < bn ∨ (bn = w0 ∧ bo < o0 + 1) by omega, q4, fun w o hw ho hr he => ?_⟩
    have hr : w0 < w ∨ (w = w0 ∧ o < o0 + 1) := hr
    by_cases hx : w = w0 ∧ o = o0
    · rw [hx.1, hx.2] at he
      omega
    · exact q5 w o hw ho (show w0 < w ∨ (w = w0 ∧ o < o0) by omega) he
/-- up both: the reference's way -/
theorem PB_ryes {no nn : Nat} {M : Nat → Nat → Bool} {w0 o0 bl bn bo : Nat} (h : PB no nn M (RR w0 o0) bl bn bo) (hw0 : w0 < nn) (ho0 : o0 < no) (hb : bl < rn M nn o0 w0) : PB no nn M (RR w0 (o0 + 1)) (rn M nn o0 w0) w0 o0 := by
  refine ⟨fun w o hw ho hr => ?_, fun h0 => by omega, fun _ => ⟨hw0, ho0, Or.inr ⟨rfl, by omega⟩, rfl, fun w o hw ho hr he => ?_⟩⟩
  · have hr : w < w0 ∨ (w = w0 ∧ o < o0 + 1) := hr
    by_cases hx : w = w0 ∧ o = o0
    · rw [hx.1, hx.2]; exact Nat.le_refl _
    · have := h.1 w o hw ho (show w < w0 ∨ (w = w0 ∧ o < o0) by omega); omega
  · have hr : w < w0 ∨ (w = w0 ∧ o < o0 + 1) := hr
    by_cases hx : w = w0 ∧ o = o0
    · omega
    · have := h.1 w o hw ho (show w < w0 ∨ (w = w0 ∧ o < o0) by omega); omega
theorem PB_rkeep {no nn : Nat} {M : Nat → Nat → Bool} {w0 o0 bl bn bo : Nat} (h : PB no nn M (RR w0 o0) bl bn bo) (hb : rn M nn o0 w0 ≤ bl) : PB no nn M (RR w0 (o0 + 1)) bl bn bo := by
  refine ⟨fun w o hw ho hr => ?_, h.2.1, fun h0 => ?_⟩
  · have hr : w < w0 ∨ (w = w0 ∧ o < o0 + 1) := hr
    by_cases hx : w = w0 ∧ o = o0
    · rw [hx.1, hx.2]; exact hb
    · exact h.1 w o hw ho (show w < w0 ∨ (w = w0 ∧ o < o0) by omega)
  · obtain ⟨q1, q2, q3, q4, q5⟩ := h.2.2 h0
    have q3 : bn < w0 ∨ (bn = w0 ∧ bo < o0) := q3
    refine ⟨q1, q2, show bn < w0 ∨ (bn = w0 ∧ bo < o0 + 1) by omega, q4, fun w o hw ho hr he => ?_⟩
    have hr : w < w0 ∨ (w = w0 ∧ o < o0 + 1) := hr
    by_cases hx : w = w0 ∧ o = o0
    · omega
    · exact q5 w o hw ho (show w < w0 ∨ (w = w0 ∧ o < o0) by omega) he
/-! the blocks that were taken, the last one first: (length, newStart, oldStart) -/
abbrev bT : Type := Nat × Nat × Nat
def tO (bs : List bT) (o : Nat) : Bool := bs.any (fun b => decide (b.2.2 ≤ o ∧ o < b.2.2 + b.1))
def tN (bs : List bT) (w : Nat) : Bool := bs.any (fun b => decide (b.2.1 ≤ w ∧ w < b.2.1 + b.1))
theorem tO_cons (b : bT) (bs : List bT) (o : Nat) : tO (b :: bs) o = (decide (b.2.2 ≤ o ∧ o < b.2.2 + b.1) || tO bs o) := rfl
theorem tN_cons (b : bT) (bs : List bT) (w : Nat) : tN (b :: bs) w = (decide (b.2.1 ≤ w ∧ w < b.2.1 + b.1) || tN bs w) := rfl
theorem tN_mem {bs : List bT} {b : bT} {w : Nat} (hb : b ∈ bs) (h : b.2.1 ≤ w ∧ w < b.2.1 + b.1) : tN bs w = true := List.any_eq_true.mpr ⟨b, hb, decide_eq_true h⟩
theorem tN_ex {bs : List bT} {w : Nat} (h : tN bs w = true) : ∃ b, b ∈ bs ∧ b.2.1 ≤ w ∧ w < b.2.1 + b.1 := by
  obtain ⟨b, h1, h2⟩ := List.any_eq_true.mp h
  exact ⟨b, h1, of_decide_eq_true h2⟩
def MM (no nn : Nat) (mt : Nat → Nat → Bool) (bs : List bT) : Nat → Nat → Bool := Mf no nn mt (tO bs) (tN bs)
def Chn (no nn : Nat) (mt : Nat → Nat → Bool) (ml : Nat) : List bT → Prop
  | [] => True
  | b :: bs => Chn no nn mt ml bs ∧ PB no nn (MM no nn mt bs) RT b.1 b.2.1 b.2.2 ∧ ml ≤ b.1
def Fnl (no nn : Nat) (mt : Nat → Nat → Bool) (ml : Nat) (bs : List bT) : Prop := ∃ b : bT, PB no nn (MM no nn mt bs) RT b.1 b.2.1 b.2.2 ∧ b.1 < ml
theorem Chn_tail {no nn : Nat} {mt : Nat → Nat → Bool} {ml : Nat} : ∀ {xs bs : List bT}, Chn no nn mt ml (xs ++ bs) → Chn no nn mt ml bs
  | [], _, h => h
  | _ :: xs, _, h => Chn_tail (xs := xs) h.1
theorem Chn_suffix {no nn : Nat} {mt : Nat → Nat → Bool} {ml : Nat} : ∀ {bs cs : List bT}, Chn no nn mt ml bs → Chn no nn mt ml cs → bs.length ≤ cs.length → ∃ xs, cs = xs ++ bs
  | [], cs, _, _, _ => ⟨cs, by simp⟩
  | b :: bs, cs, hb, hc, hl => by
    have hl : bs.length + 1 ≤ cs.length := hl
    obtain ⟨xs, hx⟩ := Chn_suffix hb.1 hc (by omega)
    have hx0 : xs ≠ [] := by
      intro h0; rw [hx, h0] at hl; simp at hl; omega
    obtain ⟨ys, c, hys⟩ : ∃ ys c, xs = ys ++ [c] := ⟨xs.dropLast, xs.getLast hx0, (List.dropLast_concat_getLast hx0).symm⟩
    rw [hys, List.append_assoc] at hx
    have hx : cs = ys ++ (c :: bs) := hx
    rw [hx] at hc
    have h2 := Chn_tail hc
    have e := PB_uniq hb.2.1 h2.2.1
    refine ⟨ys, ?_⟩
    rw [hx]
    have : b = c := Prod.ext e.1 (Prod.ext e.2.1 e.2.2)
    rw [this]
theorem Chn_uniq {no nn : Nat} {mt : Nat → Nat → Bool} {ml : Nat} {bs cs : List bT} (hb : Chn no nn mt ml bs) (hc : Chn no nn mt ml cs) (fb : Fnl no nn mt ml bs) (fc : Fnl no nn mt ml cs) : bs = cs := by
  have key : ∀ {bs cs : List bT}, Chn no nn mt ml bs → Chn no nn mt ml cs → Fnl no nn mt ml bs → bs.length ≤ cs.length → bs = cs := by
    intro bs cs hb hc fb hl
    obtain ⟨xs, hx⟩ := Chn_suffix hb hc hl
    by_cases hx0 : xs = []
    · rw [hx, hx0]; rfl
    · obtain ⟨ys, c, hys⟩ : ∃ ys c, xs = ys ++ [c] := ⟨xs.dropLast, xs.getLast hx0, (List.dropLast_concat_getLast hx0).symm⟩
      rw [hys, List.append_assoc] at hx
      have hx : cs = ys ++ (c :: bs) := hx
      rw [hx] at hc
      have h2 := Chn_tail hc
      obtain ⟨b, h3, h4⟩ := fb
      have e := PB_uniq h3 h2.2.1
      have := h2.2.2
      omega
  rcases Nat.le_total bs.length cs.length with h | h
  · exact key hb hc fb h
  · exact (key hc hb fc h).symm
/-- what the taken blocks are -/
def Geo (no nn : Nat) : List bT → Prop
  | [] => True
  | b :: bs => Geo no nn bs ∧ 1 ≤ b.1 ∧ b.2.2 + b.1 ≤ no ∧ b.2.1 + b.1 ≤ nn ∧ ∀ c, c ∈ bs → b.2.1 + b.1 ≤ c.2.1 ∨ c.2.1 + c.1 ≤ b.2.1
theorem Geo_mem {no nn : Nat} : ∀ {bs : List bT}, Geo no nn bs → ∀ b, b ∈ bs → 1 ≤ b.1 ∧ b.2.2 + b.1 ≤ no ∧ b.2.1 + b.1 ≤ nn
  | [], _, b, hb => absurd hb List.not_mem_nil
  | c :: bs, h, b, hb => by
    rcases List.mem_cons.mp hb with e | e
    · rw [e]; exact ⟨h.2.1, h.2.2.1, h.2.2.2.1⟩
    · exact Geo_mem h.1 b e
theorem Geo_apart {no nn : Nat} : ∀ {bs : List bT}, Geo no nn bs → ∀ b c, b ∈ bs → c ∈ bs → b = c ∨ b.2.1 + b.1 ≤ c.2.1 ∨ c.2.1 + c.1 ≤ b.2.1
  | [], _, b, c, hb, _ => absurd hb List.not_mem_nil
  | d :: bs, h, b, c, hb, hc => by
    rcases List.mem_cons.mp hb with e | e
    · rcases List.mem_cons.mp hc with e2 | e2
      · exact Or.inl (by rw [e, e2])
      · rw [e]; exact Or.inr (h.2.2.2.2 c e2)
    · rcases List.mem_cons.mp hc with e2 | e2
      · rw [e2]; exact Or.inr (h.2.2.2.2 b e).symm
      · exact Geo_apart h.1 b c e e2
theorem PB_run {no nn : Nat} {mt : Nat → Nat → Bool} {ot nt : Nat → Bool} {Rg : Nat → Nat → Prop} {bl bn bo : Nat} (h : PB no nn (Mf no nn mt ot nt) Rg bl bn bo) {t : Nat} (ht : t < bl) : bo + t < no ∧ bn + t < nn ∧ ot (bo + t) = false ∧ nt (bn + t) = false := by
  obtain ⟨q1, q2, q3, q4, q5⟩ := h.2.2 (by omega)
  exact Mf_lt (rn_all (by rw [q4]; exact ht))
theorem Chn_geo {no nn : Nat} {mt : Nat → Nat → Bool} {ml : Nat} (hml : 1 ≤ ml) : ∀ {bs : List bT}, Chn no nn mt ml bs → Geo no nn bs
  | [], _ => trivial
  | b :: bs, h => by
    have hg := Chn_geo hml h.1
    have h1 : 1 ≤ b.1 := Nat.le_trans hml h.2.2
    have hl := PB_run (h.2.1) (show b.1 - 1 < b.1 by omega)
    refine ⟨hg, h1, by omega, by omega, fun c hc => ?_⟩
    have hc1 := (Geo_mem hg c hc).1
    by_cases hx : b.2.1 + b.1 ≤ c.2.1 ∨ c.2.1 + c.1 ≤ b.2.1
    · exact hx
    · exfalso
      by_cases hy : b.2.1 ≤ c.2.1
      · have := (PB_run h.2.1 (show c.2.1 - b.2.1 < b.1 by omega)).2.2.2
        rw [show b.2.1 + (c.2.1 - b.2.1) = c.2.1 from by omega, tN_mem hc ⟨by omega, by omega⟩] at this
        cases this
      · have := (PB_run h.2.1 (show 0 < b.1 by omega)).2.2.2
        rw [show b.2.1 + 0 = b.2.1 from by omega, tN_mem hc ⟨by omega, by omega⟩] at this
        cases this
theorem cnt_more {p q : Nat → Bool} {a : Nat} : ∀ {n : Nat}, (∀ i, i < n → p i = true → q i = true) → a < n → p a = false → q a = true → cnt p n + 1 ≤ cnt q n
  | 0, _, h, _, _ => absurd h (Nat.not_lt_zero _)
  | n + 1, h, ha, hp, hq => by
    have hmono : ∀ m, m ≤ n + 1 → cnt p m ≤ cnt q m := by
      intro m
      induction m with
      | zero => intro _; exact Nat.le_refl _
      | succ m ih =>
        intro hm
        have := ih (by omega)
        unfold cnt
        by_cases hpm : p m = true
        · rw [if_pos hpm, if_pos (h m (by omega) hpm)]; omega
        · rw [if_neg hpm]; split <;> omega
    unfold cnt
    by_cases han : a = n
    · rw [← han, if_neg (by rw [hp]; decide), if_pos hq]
      have := hmono a (by omega); omega
    · have := cnt_more (fun i hi => h i (by omega)) (show a < n by omega) hp hq
      by_cases hpm : p n = true
      · rw [if_pos hpm, if_pos (h n (by omega) hpm)]; omega
      · rw [if_neg hpm]; split <;> omega
theorem Chn_len {no nn : Nat} {mt : Nat → Nat → Bool} {ml : Nat} (hml : 1 ≤ ml) : ∀ {bs : List bT}, Chn no nn mt ml bs → bs.length ≤ cnt (tN bs) nn
  | [], _ => Nat.zero_le _
  | b :: bs, h => by
    have := Chn_len hml h.1
    have h1 : 1 ≤ b.1 := Nat.le_trans hml h.2.2
    have hr := PB_run h.2.1 (show 0 < b.1 by omega)
    have := cnt_more (p := tN bs) (q := tN (b :: bs)) (a := b.2.1) (n := nn) (fun i _ hi => by rw [tN_cons, hi]; simp) (by omega) (by simpa using hr.2.2.2) (by rw [tN_cons, decide_eq_true ⟨by omega, by omega⟩]; rfl)
    show bs.length + 1 ≤ _
    omega
theorem Chn_full {no nn : Nat} {mt : Nat → Nat → Bool} {ml : Nat} (hml : 1 ≤ ml) {bs : List bT} (h : Chn no nn mt ml bs) (hl : nn ≤ bs.length) : Fnl no nn mt ml bs := by
  have h1 := Chn_len hml h
  have hall : ∀ w, w < nn → tN bs w = true := by
    intro w hw
    by_cases hx : tN bs w = true
    · exact hx
    · exfalso
      have h2 := cnt_more (p := tN bs) (q := fun _ => true) (a := w) (n := nn) (fun _ _ _ => rfl) hw (by simpa using hx) rfl
      have h3 := cnt_le (fun _ => true) nn
      omega
  refine ⟨(0, 0, 0), ⟨fun w o hw ho _ => ?_, fun _ => ⟨rfl, rfl⟩, fun h0 => absurd h0 (Nat.lt_irrefl _)⟩, by show 0 < ml; omega⟩
  have : rn (MM no nn mt bs) nn o w = 0 := rn_no (by unfold MM; rw [Mf_in ho hw, hall w hw]; simp)
  rw [this]; exact Nat.le_refl _
/-! the blocks in order of newStart -/
def SE (k : Nat) (os ns ln : Nat → Nat) (bs : List bT) : Prop :=
  (∀ i, i < k → ((ln i, ns i, os i) : bT) ∈ bs) ∧ (∀ b, b ∈ bs → ∃ i, i < k ∧ b = (ln i, ns i, os i)) ∧ ∀ i j, i < j → j < k → ns i < ns j
theorem SE_B48 {no nn k : Nat} {os ns ln : Nat → Nat} {bs : List bT} (hg : Geo no nn bs) (hs : SE k os ns ln bs) (h1 : no ≤ 48) (h2 : nn ≤ 48) : B48 k os ns ln := by
  intro j hj
  have := Geo_mem hg _ (hs.1 j hj)
  simp only at this
  omega
theorem ins_lo (f : Nat → Nat) {q k x j : Nat} (h : j < q) : ins f q k x j = f j := by
  unfold ins va_up shf; rw [if_neg (by omega), if_neg (by omega)]
theorem ins_at (f : Nat → Nat) {q k x : Nat} : ins f q k x q = x := by unfold ins va_up; rw [if_pos rfl]
theorem ins_hi (f : Nat → Nat) {q k x j : Nat} (h : q ≤ j) (h2 : j < k) : ins f q k x (j + 1) = f j := by
  unfold ins va_up shf; rw [if_neg (by omega), if_pos (by omega), Nat.add_sub_cancel]
theorem SE_ins {k : Nat} {os ns ln : Nat → Nat} {bs : List bT} {b : bT} {q : Nat} (hs : SE k os ns ln bs) (hne : ∀ c, c ∈ bs → c.2.1 ≠ b.2.1) (hq : q ≤ k) (h1 : 0 < q → ns (q - 1) ≤ b.2.1) (h2 : ∀ j, q ≤ j → j < k → b.2.1 < ns j) :
    SE (k + 1) (ins os q k b.2.2) (ins ns q k b.2.1) (ins ln q k b.1) (b :: bs) := by
  obtain ⟨s1, s2, s3⟩ := hs
  refine ⟨fun i hi => ?_, fun c hc => ?_, fun i j hij hj => ?_⟩
  · rcases Nat.lt_trichotomy i q with h | h | h
    · rw [ins_lo _ h, ins_lo _ h, ins_lo _ h]; exact List.mem_cons_of_mem _ (s1 i (by omega))
    · rw [h, ins_at, ins_at, ins_at]; exact List.mem_cons_self
    · obtain ⟨m, rfl⟩ : ∃ m, i = m + 1 := ⟨i - 1, by omega⟩
      rw [ins_hi _ (by omega) (by omega), ins_hi _ (by omega) (by omega), ins_hi _ (by omega) (by omega)]
      exact List.mem_cons_of_mem _ (s1 m (by omega))
  · rcases List.mem_cons.mp hc with e | e
    · exact ⟨q, by omega, by rw [ins_at, ins_at, ins_at, e]⟩
    · obtain ⟨i, hi, he⟩ := s2 c e
      by_cases hiq : i < q
      · exact ⟨i, by omega, by rw [ins_lo _ hiq, ins_lo _ hiq, ins_lo _ hiq]; exact he⟩
      · exact ⟨i + 1, by omega, by rw [ins_hi _ (by omega) hi, ins_hi _ (by omega) hi, ins_hi _ (by omega) hi]; exact he⟩
  · have hlow : ∀ m, m < q → ns m < b.2.1 := by
      intro m hm
      have ha : ns (q - 1) < b.2.1 := by
        have hb := h1 (by omega)
        have hc := hne _ (s1 (q - 1) (by omega))
        simp only at hc
        omega
      by_cases hmq : m = q - 1
      · rw [hmq]; exact ha
      · exact Nat.lt_trans (s3 m (q - 1) (by omega) (by omega)) ha
    rcases Nat.lt_trichotomy j q with h | h | h
    · rw [ins_lo _ h, ins_lo _ (by omega)]; exact s3 i j hij (by omega)
    · rw [h, ins_at, ins_lo _ (by omega)]; exact hlow i (by omega)
    · obtain ⟨m, rfl⟩ : ∃ m, j = m + 1 := ⟨j - 1, by omega⟩
      rw [ins_hi _ (show q ≤ m by omega) (by omega)]
      have hm := h2 m (by omega) (by omega)
      rcases Nat.lt_trichotomy i q with h3 | h3 | h3
      · rw [ins_lo _ h3]; exact Nat.lt_trans (hlow i h3) hm
      · rw [h3, ins_at]; exact hm
      · obtain ⟨t, rfl⟩ : ∃ t, i = t + 1 := ⟨i - 1, by omega⟩
        rw [ins_hi _ (by omega) (by omega)]; exact s3 t m (by omega) (by omega)
theorem SE_uniq {no nn k k' : Nat} {os ns ln os' ns' ln' : Nat → Nat} {bs : List bT} (hg : Geo no nn bs) (hs : SE k os ns ln bs) (hs' : SE k' os' ns' ln' bs) : k = k' ∧ ∀ j, j < k → os' j = os j ∧ ns' j = ns j ∧ ln' j = ln j := by
  have key : ∀ {k k' : Nat} {os ns ln os' ns' ln' : Nat → Nat}, SE k os ns ln bs → SE k' os' ns' ln' bs → ∀ i, i < k → i < k' → (∀ j, j < i → ns j = ns' j) → ns' i ≤ ns i := by
    intro k k' os ns ln os' ns' ln' hs hs' i hi hi' hb
    obtain ⟨j, hj, he⟩ := hs'.2.1 _ (hs.1 i hi)
    have he : ns i = ns' j := congrArg (fun b : bT => b.2.1) he
    by_cases hji : j < i
    · have := hs.2.2 j i hji hi; rw [hb j hji, ← he] at this; omega
    · by_cases e : j = i
      · rw [he, e]; exact Nat.le_refl _
      · have := hs'.2.2 i j (by omega) hj; omega
  have eqs : ∀ i, i < k → i < k' → ns i = ns' i := by
    intro i
    induction i using Nat.strongRecOn with
    | _ i ih =>
      intro hi hi'
      exact Nat.le_antisymm (key hs' hs i hi' hi (fun j hj => (ih j hj (by omega) (by omega)).symm)) (key hs hs' i hi hi' (fun j hj => ih j hj (by omega) (by omega)))
  have le : ∀ {k k' : Nat} {os ns ln os' ns' ln' : Nat → Nat}, SE k os ns ln bs → SE k' os' ns' ln' bs → (∀ i, i < k → i < k' → ns i = ns' i) → k ≤ k' := by
    intro k k' os ns ln os' ns' ln' hs hs' he
    by_cases h : k ≤ k'
    · exact h
    · exfalso
      obtain ⟨j, hj, e⟩ := hs'.2.1 _ (hs.1 k' (by omega))
      have e : ns k' = ns' j := congrArg (fun b : bT => b.2.1) e
      have := hs.2.2 j k' hj (by omega)
      rw [he j (by omega) hj] at this
      omega
  have hk : k = k' := Nat.le_antisymm (le hs hs' eqs) (le hs' hs (fun i hi hi' => (eqs i hi' hi).symm))
  refine ⟨hk, fun j hj => ?_⟩
  have e := eqs j hj (by omega)
  have m1 := hs.1 j hj
  have m2 := hs'.1 j (by omega)
  have g1 := (Geo_mem hg _ m1).1
  have g2 := (Geo_mem hg _ m2).1
  rcases Geo_apart hg _ _ m1 m2 with h | h
  · exact ⟨(congrArg (fun b : bT => b.2.2) h).symm, (congrArg (fun b : bT => b.2.1) h).symm, (congrArg (fun b : bT => b.1) h).symm⟩
  · simp only at h g1 g2; omega
end
