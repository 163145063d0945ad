section
-- ===== PART A: goes FIRST, ahead of the names: the tables' words, and 'selects' of the private methods out of them =====
/-- a private method of a class that the tables say can be made, by its rows of tables_1 -/
def lw_okq (q : MethodName × Nat) : Prop := (q.1.cls ≠ "java/lang/invoke/MethodHandle" ∧ q.1.cls ≠ "java/lang/invoke/VarHandle") ∧ Cond.instantiable q.1.cls q.2 ∈ tables_1 ∧ Cond.privateMethod q.1 ∈ tables_1 ∧ Cond.instanceMethod q.1 ∈ tables_1
theorem lw_p0 : lw_okq (⟨"NibbleTrie$Trie", "list", "()V"⟩, 10) := ⟨⟨by decide +kernel, by decide +kernel⟩, List.mem_of_getElem? (i := 18) (by decide +kernel), List.mem_of_getElem? (i := 171) (by decide +kernel), List.mem_of_getElem? (i := 172) (by decide +kernel)⟩
theorem lw_p1 : lw_okq (⟨"NibbleTrie$Trie", "listPart", "(IIII)V"⟩, 10) := ⟨⟨by decide +kernel, by decide +kernel⟩, List.mem_of_getElem? (i := 18) (by decide +kernel), List.mem_of_getElem? (i := 175) (by decide +kernel), List.mem_of_getElem? (i := 176) (by decide +kernel)⟩
theorem lw_p2 : lw_okq (⟨"NibbleTrie$Trie", "listBranch", "(IIII)V"⟩, 10) := ⟨⟨by decide +kernel, by decide +kernel⟩, List.mem_of_getElem? (i := 18) (by decide +kernel), List.mem_of_getElem? (i := 186) (by decide +kernel), List.mem_of_getElem? (i := 187) (by decide +kernel)⟩
theorem lw_p3 : lw_okq (⟨"NibbleTrie$Trie", "firstChildRow", "(II)I"⟩, 10) := ⟨⟨by decide +kernel, by decide +kernel⟩, List.mem_of_getElem? (i := 18) (by decide +kernel), List.mem_of_getElem? (i := 190) (by decide +kernel), List.mem_of_getElem? (i := 191) (by decide +kernel)⟩
theorem lw_p4 : lw_okq (⟨"NibbleTrie$Trie", "writeReference", "(III[JI)I"⟩, 10) := ⟨⟨by decide +kernel, by decide +kernel⟩, List.mem_of_getElem? (i := 18) (by decide +kernel), List.mem_of_getElem? (i := 229) (by decide +kernel), List.mem_of_getElem? (i := 230) (by decide +kernel)⟩
theorem lw_p5 : lw_okq (⟨"NibbleTrie$Trie", "branchDigest", "(III)J"⟩, 10) := ⟨⟨by decide +kernel, by decide +kernel⟩, List.mem_of_getElem? (i := 18) (by decide +kernel), List.mem_of_getElem? (i := 237) (by decide +kernel), List.mem_of_getElem? (i := 238) (by decide +kernel)⟩
theorem lw_p6 : lw_okq (⟨"NibbleTrie$Trie", "writeBranch", "(III[JI)I"⟩, 10) := ⟨⟨by decide +kernel, by decide +kernel⟩, List.mem_of_getElem? (i := 18) (by decide +kernel), List.mem_of_getElem? (i := 241) (by decide +kernel), List.mem_of_getElem? (i := 242) (by decide +kernel)⟩
theorem lw_p7 : lw_okq (⟨"NibbleTrie", "branchesToWrite", "()I"⟩, 4) := ⟨⟨by decide +kernel, by decide +kernel⟩, List.mem_of_getElem? (i := 10) (by decide +kernel), List.mem_of_getElem? (i := 260) (by decide +kernel), List.mem_of_getElem? (i := 261) (by decide +kernel)⟩
theorem lw_p8 : lw_okq (⟨"NibbleTrie$Trie", "isSame", "(ILNibbleTrie$Trie;I)Z"⟩, 10) := ⟨⟨by decide +kernel, by decide +kernel⟩, List.mem_of_getElem? (i := 18) (by decide +kernel), List.mem_of_getElem? (i := 268) (by decide +kernel), List.mem_of_getElem? (i := 269) (by decide +kernel)⟩
theorem lw_p9 : lw_okq (⟨"NibbleTrie", "isAmongVersions", "(ILNibbleTrie$Trie;I)Z"⟩, 4) := ⟨⟨by decide +kernel, by decide +kernel⟩, List.mem_of_getElem? (i := 10) (by decide +kernel), List.mem_of_getElem? (i := 272) (by decide +kernel), List.mem_of_getElem? (i := 273) (by decide +kernel)⟩
theorem lw_p10 : lw_okq (⟨"NibbleTrie", "goDown", "()V"⟩, 4) := ⟨⟨by decide +kernel, by decide +kernel⟩, List.mem_of_getElem? (i := 10) (by decide +kernel), List.mem_of_getElem? (i := 276) (by decide +kernel), List.mem_of_getElem? (i := 277) (by decide +kernel)⟩
theorem lw_p11 : lw_okq (⟨"NibbleTrie", "keepWorking", "()V"⟩, 4) := ⟨⟨by decide +kernel, by decide +kernel⟩, List.mem_of_getElem? (i := 10) (by decide +kernel), List.mem_of_getElem? (i := 292) (by decide +kernel), List.mem_of_getElem? (i := 293) (by decide +kernel)⟩
theorem lw_p12 : lw_okq (⟨"NibbleTrie", "isKept", "(I)Z"⟩, 4) := ⟨⟨by decide +kernel, by decide +kernel⟩, List.mem_of_getElem? (i := 10) (by decide +kernel), List.mem_of_getElem? (i := 308) (by decide +kernel), List.mem_of_getElem? (i := 309) (by decide +kernel)⟩
theorem lw_p13 : lw_okq (⟨"NibbleTrie", "isFirstOfItsKind", "(II)Z"⟩, 4) := ⟨⟨by decide +kernel, by decide +kernel⟩, List.mem_of_getElem? (i := 10) (by decide +kernel), List.mem_of_getElem? (i := 320) (by decide +kernel), List.mem_of_getElem? (i := 321) (by decide +kernel)⟩
theorem lw_p14 : lw_okq (⟨"NibbleTrie", "isUse", "(II)Z"⟩, 4) := ⟨⟨by decide +kernel, by decide +kernel⟩, List.mem_of_getElem? (i := 10) (by decide +kernel), List.mem_of_getElem? (i := 328) (by decide +kernel), List.mem_of_getElem? (i := 329) (by decide +kernel)⟩
theorem lw_p15 : lw_okq (⟨"NibbleTrie$Trie", "pathTo", "(I)I"⟩, 10) := ⟨⟨by decide +kernel, by decide +kernel⟩, List.mem_of_getElem? (i := 18) (by decide +kernel), List.mem_of_getElem? (i := 344) (by decide +kernel), List.mem_of_getElem? (i := 345) (by decide +kernel)⟩
def lw_privs_1 : List (MethodName × Nat) := [(⟨"NibbleTrie$Trie", "list", "()V"⟩, 10), (⟨"NibbleTrie$Trie", "listPart", "(IIII)V"⟩, 10), (⟨"NibbleTrie$Trie", "listBranch", "(IIII)V"⟩, 10), (⟨"NibbleTrie$Trie", "firstChildRow", "(II)I"⟩, 10), (⟨"NibbleTrie$Trie", "writeReference", "(III[JI)I"⟩, 10), (⟨"NibbleTrie$Trie", "branchDigest", "(III)J"⟩, 10), (⟨"NibbleTrie$Trie", "writeBranch", "(III[JI)I"⟩, 10), (⟨"NibbleTrie", "branchesToWrite", "()I"⟩, 4), (⟨"NibbleTrie$Trie", "isSame", "(ILNibbleTrie$Trie;I)Z"⟩, 10), (⟨"NibbleTrie", "isAmongVersions", "(ILNibbleTrie$Trie;I)Z"⟩, 4), (⟨"NibbleTrie", "goDown", "()V"⟩, 4), (⟨"NibbleTrie", "keepWorking", "()V"⟩, 4), (⟨"NibbleTrie", "isKept", "(I)Z"⟩, 4), (⟨"NibbleTrie", "isFirstOfItsKind", "(II)Z"⟩, 4), (⟨"NibbleTrie", "isUse", "(II)Z"⟩, 4), (⟨"NibbleTrie$Trie", "pathTo", "(I)I"⟩, 10)]
theorem lw_r1 : ∀ q ∈ lw_privs_1, lw_okq q := List.forall_mem_cons.mpr ⟨lw_p0, List.forall_mem_cons.mpr ⟨lw_p1, List.forall_mem_cons.mpr ⟨lw_p2, List.forall_mem_cons.mpr ⟨lw_p3, List.forall_mem_cons.mpr ⟨lw_p4, List.forall_mem_cons.mpr ⟨lw_p5, List.forall_mem_cons.mpr ⟨lw_p6, List.forall_mem_cons.mpr ⟨lw_p7, List.forall_mem_cons.mpr ⟨lw_p8, List.forall_mem_cons.mpr ⟨lw_p9, List.forall_mem_cons.mpr ⟨lw_p10, List.forall_mem_cons.mpr ⟨lw_p11, List.forall_mem_cons.mpr ⟨lw_p12, List.forall_mem_cons.mpr ⟨lw_p13, List.forall_mem_cons.mpr ⟨lw_p14, List.forall_mem_cons.mpr ⟨lw_p15, fun _ h => absurd h List.not_mem_nil⟩⟩⟩⟩⟩⟩⟩⟩⟩⟩⟩⟩⟩⟩⟩⟩
theorem lw_p16 : lw_okq (⟨"NibbleTrie$Proof", "takeTopReference", "(J)V"⟩, 8) := ⟨⟨by decide +kernel, by decide +kernel⟩, List.mem_of_getElem? (i := 84) (by decide +kernel), List.mem_of_getElem? (i := 376) (by decide +kernel), List.mem_of_getElem? (i := 377) (by decide +kernel)⟩
theorem lw_p17 : lw_okq (⟨"NibbleTrie$Proof", "hasReference", "(I)Z"⟩, 8) := ⟨⟨by decide +kernel, by decide +kernel⟩, List.mem_of_getElem? (i := 84) (by decide +kernel), List.mem_of_getElem? (i := 380) (by decide +kernel), List.mem_of_getElem? (i := 381) (by decide +kernel)⟩
theorem lw_p18 : lw_okq (⟨"NibbleTrie$Proof", "end", "(J)V"⟩, 8) := ⟨⟨by decide +kernel, by decide +kernel⟩, List.mem_of_getElem? (i := 84) (by decide +kernel), List.mem_of_getElem? (i := 387) (by decide +kernel), List.mem_of_getElem? (i := 388) (by decide +kernel)⟩
theorem lw_p19 : lw_okq (⟨"NibbleTrie$Proof", "followDigest", "(J)V"⟩, 8) := ⟨⟨by decide +kernel, by decide +kernel⟩, List.mem_of_getElem? (i := 84) (by decide +kernel), List.mem_of_getElem? (i := 391) (by decide +kernel), List.mem_of_getElem? (i := 392) (by decide +kernel)⟩
theorem lw_p20 : lw_okq (⟨"NibbleTrie$Proof", "followPair", "(JJ)V"⟩, 8) := ⟨⟨by decide +kernel, by decide +kernel⟩, List.mem_of_getElem? (i := 84) (by decide +kernel), List.mem_of_getElem? (i := 397) (by decide +kernel), List.mem_of_getElem? (i := 398) (by decide +kernel)⟩
theorem lw_p21 : lw_okq (⟨"NibbleTrieModel", "find", "(II)I"⟩, 17) := ⟨⟨by decide +kernel, by decide +kernel⟩, List.mem_of_getElem? (i := 407) (by decide +kernel), List.mem_of_getElem? (i := 474) (by decide +kernel), List.mem_of_getElem? (i := 475) (by decide +kernel)⟩
theorem lw_p22 : lw_okq (⟨"NibbleTrieModel", "valueIn", "(II)I"⟩, 17) := ⟨⟨by decide +kernel, by decide +kernel⟩, List.mem_of_getElem? (i := 407) (by decide +kernel), List.mem_of_getElem? (i := 482) (by decide +kernel), List.mem_of_getElem? (i := 483) (by decide +kernel)⟩
theorem lw_p23 : lw_okq (⟨"NibbleTrieModel", "build", "(I)V"⟩, 17) := ⟨⟨by decide +kernel, by decide +kernel⟩, List.mem_of_getElem? (i := 407) (by decide +kernel), List.mem_of_getElem? (i := 494) (by decide +kernel), List.mem_of_getElem? (i := 495) (by decide +kernel)⟩
theorem lw_p24 : lw_okq (⟨"NibbleTrieModel", "place", "(II)I"⟩, 17) := ⟨⟨by decide +kernel, by decide +kernel⟩, List.mem_of_getElem? (i := 407) (by decide +kernel), List.mem_of_getElem? (i := 498) (by decide +kernel), List.mem_of_getElem? (i := 499) (by decide +kernel)⟩
theorem lw_p25 : lw_okq (⟨"NibbleTrieModel", "isBranch", "(II)Z"⟩, 17) := ⟨⟨by decide +kernel, by decide +kernel⟩, List.mem_of_getElem? (i := 407) (by decide +kernel), List.mem_of_getElem? (i := 502) (by decide +kernel), List.mem_of_getElem? (i := 503) (by decide +kernel)⟩
theorem lw_p26 : lw_okq (⟨"NibbleTrieModel", "members", "(II)I"⟩, 17) := ⟨⟨by decide +kernel, by decide +kernel⟩, List.mem_of_getElem? (i := 407) (by decide +kernel), List.mem_of_getElem? (i := 506) (by decide +kernel), List.mem_of_getElem? (i := 507) (by decide +kernel)⟩
theorem lw_p27 : lw_okq (⟨"NibbleTrieModel", "common", "(II)I"⟩, 17) := ⟨⟨by decide +kernel, by decide +kernel⟩, List.mem_of_getElem? (i := 407) (by decide +kernel), List.mem_of_getElem? (i := 513) (by decide +kernel), List.mem_of_getElem? (i := 514) (by decide +kernel)⟩
theorem lw_p28 : lw_okq (⟨"NibbleTrieModel", "member", "(II)I"⟩, 17) := ⟨⟨by decide +kernel, by decide +kernel⟩, List.mem_of_getElem? (i := 407) (by decide +kernel), List.mem_of_getElem? (i := 517) (by decide +kernel), List.mem_of_getElem? (i := 518) (by decide +kernel)⟩
theorem lw_p29 : lw_okq (⟨"NibbleTrieModel", "encode", "(II)V"⟩, 17) := ⟨⟨by decide +kernel, by decide +kernel⟩, List.mem_of_getElem? (i := 407) (by decide +kernel), List.mem_of_getElem? (i := 521) (by decide +kernel), List.mem_of_getElem? (i := 522) (by decide +kernel)⟩
theorem lw_p30 : lw_okq (⟨"NibbleTrieModel", "reference", "(IIZ)V"⟩, 17) := ⟨⟨by decide +kernel, by decide +kernel⟩, List.mem_of_getElem? (i := 407) (by decide +kernel), List.mem_of_getElem? (i := 525) (by decide +kernel), List.mem_of_getElem? (i := 526) (by decide +kernel)⟩
theorem lw_p31 : lw_okq (⟨"NibbleTrieModel", "say", "(J)V"⟩, 17) := ⟨⟨by decide +kernel, by decide +kernel⟩, List.mem_of_getElem? (i := 407) (by decide +kernel), List.mem_of_getElem? (i := 529) (by decide +kernel), List.mem_of_getElem? (i := 530) (by decide +kernel)⟩
def lw_privs_2 : List (MethodName × Nat) := [(⟨"NibbleTrie$Proof", "takeTopReference", "(J)V"⟩, 8), (⟨"NibbleTrie$Proof", "hasReference", "(I)Z"⟩, 8), (⟨"NibbleTrie$Proof", "end", "(J)V"⟩, 8), (⟨"NibbleTrie$Proof", "followDigest", "(J)V"⟩, 8), (⟨"NibbleTrie$Proof", "followPair", "(JJ)V"⟩, 8), (⟨"NibbleTrieModel", "find", "(II)I"⟩, 17), (⟨"NibbleTrieModel", "valueIn", "(II)I"⟩, 17), (⟨"NibbleTrieModel", "build", "(I)V"⟩, 17), (⟨"NibbleTrieModel", "place", "(II)I"⟩, 17), (⟨"NibbleTrieModel", "isBranch", "(II)Z"⟩, 17), (⟨"NibbleTrieModel", "members", "(II)I"⟩, 17), (⟨"NibbleTrieModel", "common", "(II)I"⟩, 17), (⟨"NibbleTrieModel", "member", "(II)I"⟩, 17), (⟨"NibbleTrieModel", "encode", "(II)V"⟩, 17), (⟨"NibbleTrieModel", "reference", "(IIZ)V"⟩, 17), (⟨"NibbleTrieModel", "say", "(J)V"⟩, 17)]
theorem lw_r2 : ∀ q ∈ lw_privs_2, lw_okq q := List.forall_mem_cons.mpr ⟨lw_p16, List.forall_mem_cons.mpr ⟨lw_p17, List.forall_mem_cons.mpr ⟨lw_p18, List.forall_mem_cons.mpr ⟨lw_p19, List.forall_mem_cons.mpr ⟨lw_p20, List.forall_mem_cons.mpr ⟨lw_p21, List.forall_mem_cons.mpr ⟨lw_p22, List.forall_mem_cons.mpr ⟨lw_p23, List.forall_mem_cons.mpr ⟨lw_p24, List.forall_mem_cons.mpr ⟨lw_p25, List.forall_mem_cons.mpr ⟨lw_p26, List.forall_mem_cons.mpr ⟨lw_p27, List.forall_mem_cons.mpr ⟨lw_p28, List.forall_mem_cons.mpr ⟨lw_p29, List.forall_mem_cons.mpr ⟨lw_p30, List.forall_mem_cons.mpr ⟨lw_p31, fun _ h => absurd h List.not_mem_nil⟩⟩⟩⟩⟩⟩⟩⟩⟩⟩⟩⟩⟩⟩⟩⟩
theorem lw_p32 : lw_okq (⟨"NibbleTrieModel", "digestOfWords", "()J"⟩, 17) := ⟨⟨by decide +kernel, by decide +kernel⟩, List.mem_of_getElem? (i := 407) (by decide +kernel), List.mem_of_getElem? (i := 537) (by decide +kernel), List.mem_of_getElem? (i := 538) (by decide +kernel)⟩
theorem lw_p33 : lw_okq (⟨"NibbleTrieModel", "rootOf", "(I)J"⟩, 17) := ⟨⟨by decide +kernel, by decide +kernel⟩, List.mem_of_getElem? (i := 407) (by decide +kernel), List.mem_of_getElem? (i := 545) (by decide +kernel), List.mem_of_getElem? (i := 546) (by decide +kernel)⟩
theorem lw_p34 : lw_okq (⟨"NibbleTrieModel", "has", "(I)Z"⟩, 17) := ⟨⟨by decide +kernel, by decide +kernel⟩, List.mem_of_getElem? (i := 407) (by decide +kernel), List.mem_of_getElem? (i := 557) (by decide +kernel), List.mem_of_getElem? (i := 558) (by decide +kernel)⟩
theorem lw_p35 : lw_okq (⟨"NibbleTrieModel", "same", "(II)Z"⟩, 17) := ⟨⟨by decide +kernel, by decide +kernel⟩, List.mem_of_getElem? (i := 407) (by decide +kernel), List.mem_of_getElem? (i := 561) (by decide +kernel), List.mem_of_getElem? (i := 562) (by decide +kernel)⟩
theorem lw_p36 : lw_okq (⟨"NibbleTrieModel", "back", "()V"⟩, 17) := ⟨⟨by decide +kernel, by decide +kernel⟩, List.mem_of_getElem? (i := 407) (by decide +kernel), List.mem_of_getElem? (i := 565) (by decide +kernel), List.mem_of_getElem? (i := 566) (by decide +kernel)⟩
theorem lw_p37 : lw_okq (⟨"NibbleTrieModel", "copy", "(II)V"⟩, 17) := ⟨⟨by decide +kernel, by decide +kernel⟩, List.mem_of_getElem? (i := 407) (by decide +kernel), List.mem_of_getElem? (i := 569) (by decide +kernel), List.mem_of_getElem? (i := 570) (by decide +kernel)⟩
theorem lw_p38 : lw_okq (⟨"NibbleTrieModel", "isVersion", "(I)Z"⟩, 17) := ⟨⟨by decide +kernel, by decide +kernel⟩, List.mem_of_getElem? (i := 407) (by decide +kernel), List.mem_of_getElem? (i := 585) (by decide +kernel), List.mem_of_getElem? (i := 586) (by decide +kernel)⟩
theorem lw_p39 : lw_okq (⟨"NibbleTrieModel", "stands", "(I)Z"⟩, 17) := ⟨⟨by decide +kernel, by decide +kernel⟩, List.mem_of_getElem? (i := 407) (by decide +kernel), List.mem_of_getElem? (i := 597) (by decide +kernel), List.mem_of_getElem? (i := 598) (by decide +kernel)⟩
theorem lw_p40 : lw_okq (⟨"NibbleTrieModel", "usesOf", "(I)I"⟩, 17) := ⟨⟨by decide +kernel, by decide +kernel⟩, List.mem_of_getElem? (i := 407) (by decide +kernel), List.mem_of_getElem? (i := 605) (by decide +kernel), List.mem_of_getElem? (i := 606) (by decide +kernel)⟩
theorem lw_p41 : lw_okq (⟨"NibbleTrieModel", "leads", "(III)Z"⟩, 17) := ⟨⟨by decide +kernel, by decide +kernel⟩, List.mem_of_getElem? (i := 407) (by decide +kernel), List.mem_of_getElem? (i := 609) (by decide +kernel), List.mem_of_getElem? (i := 610) (by decide +kernel)⟩
theorem lw_p42 : lw_okq (⟨"NibbleTrieModel", "append", "()V"⟩, 17) := ⟨⟨by decide +kernel, by decide +kernel⟩, List.mem_of_getElem? (i := 407) (by decide +kernel), List.mem_of_getElem? (i := 617) (by decide +kernel), List.mem_of_getElem? (i := 618) (by decide +kernel)⟩
theorem lw_p43 : lw_okq (⟨"NibbleTrieModel", "refer", "(II)Z"⟩, 17) := ⟨⟨by decide +kernel, by decide +kernel⟩, List.mem_of_getElem? (i := 407) (by decide +kernel), List.mem_of_getElem? (i := 640) (by decide +kernel), List.mem_of_getElem? (i := 641) (by decide +kernel)⟩
theorem lw_p44 : lw_okq (⟨"NibbleTrieModel", "digestOf", "(II)J"⟩, 17) := ⟨⟨by decide +kernel, by decide +kernel⟩, List.mem_of_getElem? (i := 407) (by decide +kernel), List.mem_of_getElem? (i := 644) (by decide +kernel), List.mem_of_getElem? (i := 645) (by decide +kernel)⟩
theorem lw_p45 : lw_okq (⟨"NibbleTrieModel", "throughTwo", "()I"⟩, 17) := ⟨⟨by decide +kernel, by decide +kernel⟩, List.mem_of_getElem? (i := 407) (by decide +kernel), List.mem_of_getElem? (i := 648) (by decide +kernel), List.mem_of_getElem? (i := 649) (by decide +kernel)⟩
theorem lw_p46 : lw_okq (⟨"NibbleTrieModel", "throughBranch", "()I"⟩, 17) := ⟨⟨by decide +kernel, by decide +kernel⟩, List.mem_of_getElem? (i := 407) (by decide +kernel), List.mem_of_getElem? (i := 654) (by decide +kernel), List.mem_of_getElem? (i := 655) (by decide +kernel)⟩
theorem lw_p47 : lw_okq (⟨"NibbleTrieModel", "branchEnd", "()I"⟩, 17) := ⟨⟨by decide +kernel, by decide +kernel⟩, List.mem_of_getElem? (i := 407) (by decide +kernel), List.mem_of_getElem? (i := 658) (by decide +kernel), List.mem_of_getElem? (i := 659) (by decide +kernel)⟩
def lw_privs_3 : List (MethodName × Nat) := [(⟨"NibbleTrieModel", "digestOfWords", "()J"⟩, 17), (⟨"NibbleTrieModel", "rootOf", "(I)J"⟩, 17), (⟨"NibbleTrieModel", "has", "(I)Z"⟩, 17), (⟨"NibbleTrieModel", "same", "(II)Z"⟩, 17), (⟨"NibbleTrieModel", "back", "()V"⟩, 17), (⟨"NibbleTrieModel", "copy", "(II)V"⟩, 17), (⟨"NibbleTrieModel", "isVersion", "(I)Z"⟩, 17), (⟨"NibbleTrieModel", "stands", "(I)Z"⟩, 17), (⟨"NibbleTrieModel", "usesOf", "(I)I"⟩, 17), (⟨"NibbleTrieModel", "leads", "(III)Z"⟩, 17), (⟨"NibbleTrieModel", "append", "()V"⟩, 17), (⟨"NibbleTrieModel", "refer", "(II)Z"⟩, 17), (⟨"NibbleTrieModel", "digestOf", "(II)J"⟩, 17), (⟨"NibbleTrieModel", "throughTwo", "()I"⟩, 17), (⟨"NibbleTrieModel", "throughBranch", "()I"⟩, 17), (⟨"NibbleTrieModel", "branchEnd", "()I"⟩, 17)]
theorem lw_r3 : ∀ q ∈ lw_privs_3, lw_okq q := List.forall_mem_cons.mpr ⟨lw_p32, List.forall_mem_cons.mpr ⟨lw_p33, List.forall_mem_cons.mpr ⟨lw_p34, List.forall_mem_cons.mpr ⟨lw_p35, List.forall_mem_cons.mpr ⟨lw_p36, List.forall_mem_cons.mpr ⟨lw_p37, List.forall_mem_cons.mpr ⟨lw_p38, List.forall_mem_cons.mpr ⟨lw_p39, List.forall_mem_cons.mpr ⟨lw_p40, List.forall_mem_cons.mpr ⟨lw_p41, List.forall_mem_cons.mpr ⟨lw_p42, List.forall_mem_cons.mpr ⟨lw_p43, List.forall_mem_cons.mpr ⟨lw_p44, List.forall_mem_cons.mpr ⟨lw_p45, List.forall_mem_cons.mpr ⟨lw_p46, List.forall_mem_cons.mpr ⟨lw_p47, fun _ h => absurd h List.not_mem_nil⟩⟩⟩⟩⟩⟩⟩⟩⟩⟩⟩⟩⟩⟩⟩⟩
def lw_privs : List (MethodName × Nat) := lw_privs_1 ++ (lw_privs_2 ++ (lw_privs_3))
def lw_tbl : List Cond := k2_sels lw_privs ++ tables_1
theorem lw_privs_ok : ∀ q ∈ lw_privs, lw_okq q := by
  show ∀ q ∈ lw_privs_1 ++ (lw_privs_2 ++ (lw_privs_3)), lw_okq q
  exact List.forall_mem_append.mpr ⟨lw_r1, List.forall_mem_append.mpr ⟨lw_r2, lw_r3⟩⟩
end
section
/-! Names: classes, their fields, the words that stay. -/
def tG : List Cond := lw_tbl.filter goodWord
theorem tg_of {i : Nat} {w : Cond} (h : tables_1[i]? = some w) (g : goodWord w = true) : w ∈ tG := List.mem_filter.mpr ⟨List.mem_append_right _ (List.mem_of_getElem? h), g⟩
theorem ts_of {i : Nat} {w : Cond} (h : (k2_sels lw_privs)[i]? = some w) (g : goodWord w = true) : w ∈ tG := List.mem_filter.mpr ⟨List.mem_append_left _ (List.mem_of_getElem? h), g⟩
theorem gx {q : Cond} {y : MethodName} {b : ByteArray} {n : Nat} {r : Option FieldType} (h : Cond.code y b n r ∈ tG) : GoodIn (q :: tG) (Cond.code y b n r :: tG) := fun w hw => by
  rcases List.mem_cons.mp hw with rfl | hw
  · exact ⟨List.mem_cons_of_mem _ h, good_of_word (List.mem_filter.mp h).2⟩
  · exact ⟨List.mem_cons_of_mem _ hw, good_of_word (List.mem_filter.mp hw).2⟩
abbrev R_PM : String := "NibbleTrie$PathMap"
def F_PM : u_T := fun k => match k with
  | 0 => ("NibbleTrie$PathMap", "paths", "[I", true)
  | 1 => ("NibbleTrie$PathMap", "values", "[I", true)
  | _ => ("NibbleTrie$PathMap", "rows", "I", false)
def T_PM : Nat → FieldType := fun k => match k with
  | 0 => .array .int
  | 1 => .array .int
  | _ => .int
theorem n_PM : ∀ a, a < 3 → ∀ b, b < 3 → a ≠ b → (F_PM a).2.1 ≠ (F_PM b).2.1 := by decide +kernel
theorem T_PM_ok : ∀ k, k < 3 → parseFieldDescriptor (F_PM k).2.2.1 = some (T_PM k) := by decide +kernel
theorem in_PM : ∀ w ∈ u_ws R_PM F_PM 3, w ∈ tG := by decide +kernel
abbrev R_PF : String := "NibbleTrie$Proof"
def F_PF : u_T := fun k => match k with
  | 0 => ("NibbleTrie$Proof", "words", "[J", true)
  | 1 => ("NibbleTrie$Proof", "length", "I", false)
  | 2 => ("NibbleTrie$Proof", "state", "I", false)
  | 3 => ("NibbleTrie$Proof", "next", "I", false)
  | 4 => ("NibbleTrie$Proof", "left", "I", false)
  | 5 => ("NibbleTrie$Proof", "reference", "I", false)
  | 6 => ("NibbleTrie$Proof", "referenceWords", "I", false)
  | _ => ("NibbleTrie$Proof", "shown", "J", false)
def T_PF : Nat → FieldType := fun k => match k with
  | 0 => .array .long
  | 1 => .int
  | 2 => .int
  | 3 => .int
  | 4 => .int
  | 5 => .int
  | 6 => .int
  | _ => .long
theorem n_PF : ∀ a, a < 8 → ∀ b, b < 8 → a ≠ b → (F_PF a).2.1 ≠ (F_PF b).2.1 := by decide +kernel
theorem T_PF_ok : ∀ k, k < 8 → parseFieldDescriptor (F_PF k).2.2.1 = some (T_PF k) := by decide +kernel
theorem in_PF : ∀ w ∈ u_ws R_PF F_PF 8, w ∈ tG := by decide +kernel
abbrev R_TR : String := "NibbleTrie$Trie"
def F_TR : u_T := fun k => match k with
  | 0 => ("NibbleTrie$Trie", "map", "LNibbleTrie$PathMap;", true)
  | 1 => ("NibbleTrie$Trie", "leaves", "I", false)
  | 2 => ("NibbleTrie$Trie", "extensions", "I", false)
  | 3 => ("NibbleTrie$Trie", "branches", "I", false)
  | 4 => ("NibbleTrie$Trie", "parent", "[I", true)
  | 5 => ("NibbleTrie$Trie", "firstRow", "[I", true)
  | 6 => ("NibbleTrie$Trie", "endRow", "[I", true)
  | 7 => ("NibbleTrie$Trie", "depth", "[I", true)
  | 8 => ("NibbleTrie$Trie", "topReference", "[J", true)
  | _ => ("NibbleTrie$Trie", "drafts", "[[J", true)
def T_TR : Nat → FieldType := fun k => match k with
  | 0 => .object "NibbleTrie$PathMap"
  | 1 => .int
  | 2 => .int
  | 3 => .int
  | 4 => .array .int
  | 5 => .array .int
  | 6 => .array .int
  | 7 => .array .int
  | 8 => .array .long
  | _ => .array (.array .long)
theorem n_TR : ∀ a, a < 10 → ∀ b, b < 10 → a ≠ b → (F_TR a).2.1 ≠ (F_TR b).2.1 := by decide +kernel
theorem T_TR_ok : ∀ k, k < 10 → parseFieldDescriptor (F_TR k).2.2.1 = some (T_TR k) := by decide +kernel
theorem in_TR : ∀ w ∈ u_ws R_TR F_TR 10, w ∈ tG := by decide +kernel
abbrev R_NT : String := "NibbleTrie"
def F_NT : u_T := fun k => match k with
  | 0 => ("NibbleTrie", "working", "LNibbleTrie$Trie;", true)
  | 1 => ("NibbleTrie", "kept", "[LNibbleTrie$Trie;", true)
  | 2 => ("NibbleTrie", "keptNow", "I", false)
  | _ => ("NibbleTrie", "proof", "LNibbleTrie$Proof;", true)
def T_NT : Nat → FieldType := fun k => match k with
  | 0 => .object "NibbleTrie$Trie"
  | 1 => .array (.object "NibbleTrie$Trie")
  | 2 => .int
  | _ => .object "NibbleTrie$Proof"
theorem n_NT : ∀ a, a < 4 → ∀ b, b < 4 → a ≠ b → (F_NT a).2.1 ≠ (F_NT b).2.1 := by decide +kernel
theorem T_NT_ok : ∀ k, k < 4 → parseFieldDescriptor (F_NT k).2.2.1 = some (T_NT k) := by decide +kernel
theorem in_NT : ∀ w ∈ u_ws R_NT F_NT 4, w ∈ tG := by decide +kernel
abbrev R_MO : String := "NibbleTrieModel"
def F_MO : u_T := fun k => match k with
  | 0 => ("NibbleTrieModel", "keys", "[I", true)
  | 1 => ("NibbleTrieModel", "values", "[I", true)
  | 2 => ("NibbleTrieModel", "sizes", "[I", true)
  | 3 => ("NibbleTrieModel", "kept", "I", false)
  | 4 => ("NibbleTrieModel", "many", "I", false)
  | 5 => ("NibbleTrieModel", "branch", "[I", true)
  | 6 => ("NibbleTrieModel", "digest", "[J", true)
  | 7 => ("NibbleTrieModel", "branches", "[I", true)
  | 8 => ("NibbleTrieModel", "words", "[J", true)
  | 9 => ("NibbleTrieModel", "length", "I", false)
  | 10 => ("NibbleTrieModel", "proof", "[J", true)
  | 11 => ("NibbleTrieModel", "proofLength", "I", false)
  | 12 => ("NibbleTrieModel", "at", "I", false)
  | 13 => ("NibbleTrieModel", "first", "J", false)
  | 14 => ("NibbleTrieModel", "second", "J", false)
  | 15 => ("NibbleTrieModel", "count", "I", false)
  | _ => ("NibbleTrieModel", "path", "I", false)
def T_MO : Nat → FieldType := fun k => match k with
  | 0 => .array .int
  | 1 => .array .int
  | 2 => .array .int
  | 3 => .int
  | 4 => .int
  | 5 => .array .int
  | 6 => .array .long
  | 7 => .array .int
  | 8 => .array .long
  | 9 => .int
  | 10 => .array .long
  | 11 => .int
  | 12 => .int
  | 13 => .long
  | 14 => .long
  | 15 => .int
  | _ => .int
theorem n_MO : ∀ a, a < 17 → ∀ b, b < 17 → a ≠ b → (F_MO a).2.1 ≠ (F_MO b).2.1 := by decide +kernel
theorem T_MO_ok : ∀ k, k < 17 → parseFieldDescriptor (F_MO k).2.2.1 = some (T_MO k) := by decide +kernel
theorem in_MO : ∀ w ∈ u_ws R_MO F_MO 17, w ∈ tG := by decide +kernel
abbrev classes : List vw_C := [(R_PM, F_PM, 3), (R_PF, F_PF, 8), (R_TR, F_TR, 10), (R_NT, F_NT, 4), (R_MO, F_MO, 17)]
end
section
/-! My own layer, first half: a typed memory (ints, longs, addresses by cell and place), the words of the pure functions. -/
abbrev Mm : Type := (Nat → Nat → Int32) × (Nat → Nat → Int64) × (Nat → Nat → Nat)
def gi (M : Mm) (a k : Nat) : Int32 := M.1 a k
def gl (M : Mm) (a k : Nat) : Int64 := M.2.1 a k
def gr (M : Mm) (a k : Nat) : Nat := M.2.2 a k
def si (M : Mm) (a k : Nat) (x : Int32) : Mm := (fun b j => if b = a ∧ j = k then x else M.1 b j, M.2)
def sl (M : Mm) (a k : Nat) (x : Int64) : Mm := (M.1, fun b j => if b = a ∧ j = k then x else M.2.1 b j, M.2.2)
def sr (M : Mm) (a k : Nat) (x : Nat) : Mm := (M.1, M.2.1, fun b j => if b = a ∧ j = k then x else M.2.2 b j)
/-- a loop's fuel, a recursion's depth -/
def FU : Nat := 4096
def RD : Nat := 8
/-- a place of an array of n places -/
def ix (i : Int32) (n : Nat) : Option Nat := if i < 0 ∨ n ≤ i.toNatClampNeg then none else some i.toNatClampNeg
def st {α β : Type} (a : α) (k : α → β) : β := k a
def imin (x y : Int32) : Int32 := if y < x then y else x
def imax (x y : Int32) : Int32 := if x < y then y else x
/-- System.arraycopy of ints -/
def cpI (G : Nat → Nat) (M : Mm) (a0 : Nat) (sp : Int32) (a : Nat) (dp n : Int32) : Option Mm :=
  if sp < 0 ∨ dp < 0 ∨ n < 0 ∨ G a0 < sp.toNatClampNeg + n.toNatClampNeg ∨ G a < dp.toNatClampNeg + n.toNatClampNeg then none
  else some (fun b j => if b = a then va_cpy (M.1 a0) (M.1 a) sp.toNatClampNeg dp.toNatClampNeg n.toNatClampNeg j else M.1 b j, M.2)
theorem ixE {i : Int32} {n j : Nat} (h : ix i n = some j) : vp_in i n ∧ i.toNatClampNeg = j := by
  unfold ix at h
  by_cases c : i < 0 ∨ n ≤ i.toNatClampNeg
  · rw [if_pos c] at h; cases h
  · rw [if_neg c] at h; exact ⟨c, Option.some.inj h⟩
theorem stE {α β : Type} {a : α} {k : α → β} {r : β} (h : st a k = r) : ∃ x, x = a ∧ k x = r := ⟨a, rfl, h⟩
theorem stA {α β : Type} {a x : α} {k : α → β} {r : β} (h : st a k = r) (e : x = a) : k x = r := by rw [e]; exact h
theorem ob {α β : Type} {o : Option α} {f : α → Option β} {r : β} (h : o.bind f = some r) : ∃ x, o = some x ∧ f x = some r := Option.bind_eq_some_iff.mp h
theorem ifP {α : Type} {c : Prop} [Decidable c] {a b r : α} (h : (if c then a else b) = r) (hc : c) : a = r := by rw [if_pos hc] at h; exact h
theorem ifN {α : Type} {c : Prop} [Decidable c] {a b r : α} (h : (if c then a else b) = r) (hc : ¬ c) : b = r := by rw [if_neg hc] at h; exact h
end
section
/-! My own layer, second half: the world as one pool of typed cells; rows for fields, arrays, calls. -/
abbrev En : Type := va_G × ClassId × ClassId × ClassId × ClassId
def tys (E : En) : List (ClassId × FieldType) := [(E.2.1, .int), (E.2.2.1, .long), (E.2.2.2.1, .object "NibbleTrie$Trie"), (E.2.2.2.2, .array .long)]
def enc (E : En) (K G : Nat → Nat) (M : Mm) (a : Nat) : va_E := match K a with
  | 1 => .inl (E.2.1, G a, .inl (M.1 a))
  | 2 => .inl (E.2.2.1, G a, .inr (.inl (M.2.1 a)))
  | 3 => .inl (E.2.2.2.1, G a, .inr (.inr (.inr (.inr (fun j => some (M.2.2 a j))))))
  | 4 => .inl (E.2.2.2.2, G a, .inr (.inr (.inr (.inr (fun j => some (M.2.2 a j))))))
  | 5 => .inr (3, [.ref (M.2.2 a 0), .ref (M.2.2 a 1), .int (M.1 a 2), .ref (M.2.2 a 3)])
  | 6 => .inr (2, [.ref (M.2.2 a 0), .int (M.1 a 1), .int (M.1 a 2), .int (M.1 a 3), .ref (M.2.2 a 4), .ref (M.2.2 a 5), .ref (M.2.2 a 6), .ref (M.2.2 a 7), .ref (M.2.2 a 8), .ref (M.2.2 a 9)])
  | 7 => .inr (0, [.ref (M.2.2 a 0), .ref (M.2.2 a 1), .int (M.1 a 2)])
  | 8 => .inr (1, [.ref (M.2.2 a 0), .int (M.1 a 1), .int (M.1 a 2), .int (M.1 a 3), .int (M.1 a 4), .int (M.1 a 5), .int (M.1 a 6), .long (M.2.1 a 7)])
  | 9 => .inr (4, [.ref (M.2.2 a 0), .ref (M.2.2 a 1), .ref (M.2.2 a 2), .int (M.1 a 3), .int (M.1 a 4), .ref (M.2.2 a 5), .ref (M.2.2 a 6), .ref (M.2.2 a 7), .ref (M.2.2 a 8), .int (M.1 a 9), .ref (M.2.2 a 10), .int (M.1 a 11), .int (M.1 a 12), .long (M.2.1 a 13), .long (M.2.1 a 14), .int (M.1 a 15), .int (M.1 a 16)])
  | _ => .inr (99, [])
def AL (L : List Nat) (sz : Nat) : Nat → Prop := fun q => q ∈ L ∨ sz ≤ q
def Inv (K G : Nat → Nat) (L : List Nat) (R : Nat → Nat → Nat) : Prop := (∀ a, K a ≠ 0 → a ∈ L) ∧ (∀ a, K a = 3 → ∀ i, i < G a → K (R a i) = 6) ∧ (∀ a, K a = 4 → ∀ i, i < G a → K (R a i) = 2) ∧ (∀ a, K a = 5 → K (R a 0) = 6 ∧ K (R a 1) = 3 ∧ K (R a 3) = 8) ∧ (∀ a, K a = 6 → K (R a 0) = 7 ∧ K (R a 4) = 1 ∧ K (R a 5) = 1 ∧ K (R a 6) = 1 ∧ K (R a 7) = 1 ∧ K (R a 8) = 2 ∧ K (R a 9) = 4) ∧ (∀ a, K a = 7 → K (R a 0) = 1 ∧ K (R a 1) = 1) ∧ (∀ a, K a = 8 → K (R a 0) = 2) ∧ (∀ a, K a = 9 → K (R a 0) = 1 ∧ K (R a 1) = 1 ∧ K (R a 2) = 1 ∧ K (R a 5) = 1 ∧ K (R a 6) = 2 ∧ K (R a 7) = 1 ∧ K (R a 8) = 2 ∧ K (R a 10) = 2)
def NWs (U : State) : Prop := va_Nw (.methodLinkNest "NibbleTrie" 11 ⟨"NibbleTrie$Trie", "<init>", "()V"⟩ "NibbleTrie") U ∧ va_Nw (.methodLinkNest "NibbleTrie$Trie" 11 ⟨"NibbleTrie$PathMap", "<init>", "()V"⟩ "NibbleTrie") U ∧ va_Nw (.methodLinkNest "NibbleTrie" 22 ⟨"NibbleTrie$Proof", "<init>", "()V"⟩ "NibbleTrie") U ∧ va_Nw (.methodLinkNest "NibbleTrie$Trie" 112 ⟨"NibbleTrie", "digest", "([JII)J"⟩ "NibbleTrie") U ∧ va_Nw (.methodLinkNest "NibbleTrie$Proof" 63 ⟨"NibbleTrie", "digest", "([JII)J"⟩ "NibbleTrie") U
theorem NWs.warm {s U : State} (hW : s.WarmedH U.vm) (h : NWs s) : NWs U := ⟨va_Nw.warmM hW h.1, va_Nw.warmM hW h.2.1, va_Nw.warmM hW h.2.2.1, va_Nw.warmM hW h.2.2.2.1, va_Nw.warmM hW h.2.2.2.2⟩
theorem NWs.same {u U : State} (e : u.vm = U.vm) (h : NWs u) : NWs U := ⟨va_Nw.same rfl e h.1, va_Nw.same rfl e h.2.1, va_Nw.same rfl e h.2.2.1, va_Nw.same rfl e h.2.2.2.1, va_Nw.same rfl e h.2.2.2.2⟩
def Wt (E : En) (K G : Nat → Nat) (L : List Nat) (M : Mm) (A : Nat → Prop) (t : State) : Prop := va_P E.1 classes (va_pl L (enc E K G M)) t.heap ∧ va_K E.1 classes (tys E) t ∧ va_D A (va_pl L (enc E K G M)) ∧ Inv K G L M.2.2
def Wp (E : En) (K G : Nat → Nat) (L : List Nat) (M : Mm) (sz : Nat) (U : State) : Prop := U.heap.size = sz ∧ Wt E K G L M (fun _ => True) U ∧ NWs U
def Wd (E : En) (K G : Nat → Nat) (L : List Nat) (M : Mm) (H0 H : Heap) (locs : List Loc) (s : State) : Prop := va_P E.1 classes (va_pl L (enc E K G M)) H ∧ va_D (AL L H0.size) (va_pl L (enc E K G M)) ∧ va_S (AL L H0.size) H0 H locs ∧ va_K E.1 classes (tys E) s ∧ Inv K G L M.2.2 ∧ NWs s
theorem pl_at {A : Nat → Prop} {L : List Nat} {f g : Nat → va_E} (h : va_D A (va_pl L f)) {B : Nat → Prop} (hB : ∀ a, a ∈ L → B a) : va_D B (va_pl L g) := by
  refine ⟨fun i j x y hi hj hxy => ?_, fun k q hk => ?_⟩
  · simp only [va_pl, List.getElem?_map] at hi hj
    cases ei : L[i]? with
    | none => rw [ei] at hi; cases hi
    | some u =>
      cases ej : L[j]? with
      | none => rw [ej] at hj; cases hj
      | some v =>
        rw [ei] at hi
        rw [ej] at hj
        have hx : (u, g u) = x := Option.some.inj hi
        have hy : (v, g v) = y := Option.some.inj hj
        have huv : u = v := by rw [← hx, ← hy] at hxy; exact hxy
        refine h.1 i j (u, f u) (v, f v) ?_ ?_ huv
        · simp only [va_pl, List.getElem?_map, ei]; rfl
        · simp only [va_pl, List.getElem?_map, ej]; rfl
  · simp only [va_pl, List.getElem?_map] at hk
    cases ek : L[k]? with
    | none => rw [ek] at hk; cases hk
    | some u =>
      rw [ek] at hk
      have hx : (u, g u) = q := Option.some.inj hk
      rw [← hx]
      exact hB u (List.mem_of_getElem? ek)
theorem Wd.start {E : En} {K G : Nat → Nat} {L : List Nat} {M : Mm} {s : State} {sz : Nat} (h : Wp E K G L M sz s) : Wd E K G L M s.heap s.heap [] s := ⟨h.2.1.1, pl_at h.2.1.2.2.1 (fun _ h => Or.inl h), va_S.rf, h.2.1.2.1, h.2.1.2.2.2, h.2.2⟩
theorem Wp.calling {E : En} {K G : Nat → Nat} {L : List Nat} {M : Mm} {sz : Nat} {U : State} {g : JFrame} {mk : MethodId} {a : Array Value} (h : Wp E K G L M sz U) : Wp E K G L M sz (U.calling g mk a) := ⟨h.1, ⟨h.2.1.1, va_K.moved (u := U) (U := U.calling g mk a) (Vm.Alike.refl U.vm) h.2.1.2.1, h.2.1.2.2⟩, NWs.same (u := U) (U := U.calling g mk a) rfl h.2.2⟩
theorem Wd.pre {E : En} {K G : Nat → Nat} {L : List Nat} {M : Mm} {H0 H : Heap} {locs : List Loc} {s U : State} (h : Wd E K G L M H0 H locs s) (hU : U.heap = H) (hW : s.WarmedH U.vm) : Wp E K G L M H.size U := ⟨by rw [hU], ⟨by rw [hU]; exact h.1, va_K.moved hW.alike h.2.2.2.1, pl_at h.2.1 (fun _ _ => trivial), h.2.2.2.2.1⟩, NWs.warm hW h.2.2.2.2.2⟩
theorem Wd.blind {E : En} {K G : Nat → Nat} {L : List Nat} {M : Mm} {sz : Nat} {av : List Value} : FrameBlind (va_Pc av (Wp E K G L M sz)) := fun _ _ _ _ q => ⟨q.1, q.2.calling⟩
theorem Wd.preS {E : En} {K G : Nat → Nat} {L : List Nat} {M : Mm} {H0 H : Heap} {locs : List Loc} {s : State} (h : Wd E K G L M H0 H locs s) {As : List Value} : PreS s H (va_Pc As (Wp E K G L M H.size)) As := ⟨Wd.blind, fun _ hU hW => ⟨rfl, h.pre hU hW⟩⟩
section ENC
variable {E : En} {K G : Nat → Nat} {L : List Nat} {M : Mm} {a : Nat}
theorem enc1 (h : K a = 1) : enc E K G M a = .inl (E.2.1, G a, .inl (M.1 a)) := by unfold enc; rw [h]; rfl
theorem enc2 (h : K a = 2) : enc E K G M a = .inl (E.2.2.1, G a, .inr (.inl (M.2.1 a))) := by unfold enc; rw [h]; rfl
theorem enc3 (h : K a = 3) : enc E K G M a = .inl (E.2.2.2.1, G a, .inr (.inr (.inr (.inr (fun j => some (M.2.2 a j)))))) := by unfold enc; rw [h]; rfl
theorem enc4 (h : K a = 4) : enc E K G M a = .inl (E.2.2.2.2, G a, .inr (.inr (.inr (.inr (fun j => some (M.2.2 a j)))))) := by unfold enc; rw [h]; rfl
theorem enc5 (h : K a = 5) : enc E K G M a = .inr (3, [.ref (M.2.2 a 0), .ref (M.2.2 a 1), .int (M.1 a 2), .ref (M.2.2 a 3)]) := by unfold enc; rw [h]; rfl
theorem enc6 (h : K a = 6) : enc E K G M a = .inr (2, [.ref (M.2.2 a 0), .int (M.1 a 1), .int (M.1 a 2), .int (M.1 a 3), .ref (M.2.2 a 4), .ref (M.2.2 a 5), .ref (M.2.2 a 6), .ref (M.2.2 a 7), .ref (M.2.2 a 8), .ref (M.2.2 a 9)]) := by unfold enc; rw [h]; rfl
theorem enc7 (h : K a = 7) : enc E K G M a = .inr (0, [.ref (M.2.2 a 0), .ref (M.2.2 a 1), .int (M.1 a 2)]) := by unfold enc; rw [h]; rfl
theorem enc8 (h : K a = 8) : enc E K G M a = .inr (1, [.ref (M.2.2 a 0), .int (M.1 a 1), .int (M.1 a 2), .int (M.1 a 3), .int (M.1 a 4), .int (M.1 a 5), .int (M.1 a 6), .long (M.2.1 a 7)]) := by unfold enc; rw [h]; rfl
theorem enc9 (h : K a = 9) : enc E K G M a = .inr (4, [.ref (M.2.2 a 0), .ref (M.2.2 a 1), .ref (M.2.2 a 2), .int (M.1 a 3), .int (M.1 a 4), .ref (M.2.2 a 5), .ref (M.2.2 a 6), .ref (M.2.2 a 7), .ref (M.2.2 a 8), .int (M.1 a 9), .ref (M.2.2 a 10), .int (M.1 a 11), .int (M.1 a 12), .long (M.2.1 a 13), .long (M.2.1 a 14), .int (M.1 a 15), .int (M.1 a 16)]) := by unfold enc; rw [h]; rfl
theorem enc_eq {M M2 : Mm} {b : Nat} (h1 : M2.1 b = M.1 b) (h2 : M2.2.1 b = M.2.1 b) (h3 : M2.2.2 b = M.2.2 b) : enc E K G M2 b = enc E K G M b := by unfold enc; rw [h1, h2, h3]
theorem si_ne {b k : Nat} {x : Int32} (h : b ≠ a) : (si M a k x).1 b = M.1 b := by funext j; simp [si, h]
theorem sl_ne {b k : Nat} {x : Int64} (h : b ≠ a) : (sl M a k x).2.1 b = M.2.1 b := by funext j; simp [sl, h]
theorem sr_ne {b k x : Nat} (h : b ≠ a) : (sr M a k x).2.2 b = M.2.2 b := by funext j; simp [sr, h]
theorem si_up {k : Nat} {x : Int32} {v : va_E} (hv : enc E K G (si M a k x) a = v) : va_up (enc E K G M) a v = enc E K G (si M a k x) := by
  funext b
  by_cases h : b = a
  · subst h; rw [va_up_self, hv]
  · rw [va_up_ne _ _ h]; exact (enc_eq (si_ne h) rfl rfl).symm
theorem sl_up {k : Nat} {x : Int64} {v : va_E} (hv : enc E K G (sl M a k x) a = v) : va_up (enc E K G M) a v = enc E K G (sl M a k x) := by
  funext b
  by_cases h : b = a
  · subst h; rw [va_up_self, hv]
  · rw [va_up_ne _ _ h]; exact (enc_eq (M := M) (M2 := sl M a k x) rfl (sl_ne h) rfl).symm
theorem sr_up {k x : Nat} {v : va_E} (hv : enc E K G (sr M a k x) a = v) : va_up (enc E K G M) a v = enc E K G (sr M a k x) := by
  funext b
  by_cases h : b = a
  · subst h; rw [va_up_self, hv]
  · rw [va_up_ne _ _ h]; exact (enc_eq (M := M) (M2 := sr M a k x) rfl rfl (sr_ne h)).symm
theorem si_1 {k : Nat} {x : Int32} : (si M a k x).1 a = upd (M.1 a) k x := by funext j; simp [si, upd]
theorem sl_1 {k : Nat} {x : Int64} : (sl M a k x).2.1 a = vp_updL (M.2.1 a) k x := by funext j; simp [sl, vp_updL]
theorem sr_1 {k x : Nat} : (fun j => some ((sr M a k x).2.2 a j)) = va_up (fun j => some (M.2.2 a j)) k (some x) := by funext j; by_cases h : j = k <;> simp [sr, va_up, h]
theorem al_le {H0 H : Heap} {A : Nat → Prop} {locs : List Loc} (h : va_S A H0 H locs) {q : Nat} (hq : AL L H.size q) : AL L H0.size q := hq.elim Or.inl (fun z => Or.inr (Nat.le_trans h.1 z))
end ENC
section ROW
variable {p : Program} {l : Launch} {e : Env} {R : Room} {s : State} {m : MethodId} {args : Array Value} {below : List Frame} {meth : Method} {c : Code} {H : Heap} {locs : List Loc} {Q : State → Prop} {cc : ByteArray} {pc nL : Nat} {ls : Array Slot} {rest : List Value} {E : En} {K G : Nat → Nat} {L : List Nat} {M : Mm} {H0 : Heap} {a : Nat} {own : String} {qc : Cond} {idx : Nat}
theorem pool (hWd : Wd E K G L M H0 H locs s) (h : K a ≠ 0) : ∃ k : Nat, (va_pl L (enc E K G M))[k]? = some (a, enc E K G M a) := va_pl_get (X := []) (hWd.2.2.2.2.1.1 a h)
theorem moved (hWd : Wd E K G L M H0 H locs s) {M2 : Mm} {H1 : Heap} {locs1 : List Loc} {k : Nat} {v : va_E} (hk : (va_pl L (enc E K G M))[k]? = some (a, enc E K G M a)) (ha : K a ≠ 0) (hu : va_up (enc E K G M) a v = enc E K G M2) (hR : Inv K G L M2.2.2) (hP : va_P E.1 classes ((va_pl L (enc E K G M)).set k (a, v)) H1) (hS : va_S (AL L H0.size) H0 H1 locs1) : Wd E K G L M2 H0 H1 locs1 s := by
  have e := va_pl_set (X := []) (e := v) hWd.2.1 (hWd.2.2.2.2.1.1 a ha) hk
  have e2 : (va_pl L (enc E K G M)).set k (a, v) = va_pl L (enc E K G M2) := by rw [← hu]; exact e
  rw [e2] at hP
  exact ⟨hP, pl_at hWd.2.1 (fun _ h => Or.inl h), hS, hWd.2.2.2.1, hR, hWd.2.2.2.2.2⟩
theorem r_iald (hX : CallFix p m c cc nL s args (qc :: tG) own) (hWd : Wd E K G L M H0 H locs s) (ha : K a = 1) {i : Int32} {j : Nat} (hj : ix i (G a) = some j) (hdg : decode cc pc = .ok (.iaload, 1)) (kk : W p l e R s m args below meth c H locs 0 0 Q (F0 m (pc + 1) ls (.int (gi M a j) :: rest))) : W p l e R s m args below meth c H locs 0 0 Q (F0 m pc ls (.int i :: .ref a :: rest)) := by
  obtain ⟨q, hq⟩ := pool hWd (show K a ≠ 0 by rw [ha]; decide)
  rw [enc1 ha] at hq
  obtain ⟨h1, rfl⟩ := ixE hj
  exact va_iald hX.1 hX.2.1 hWd.2.2.2.1 hWd.1 q 0 hq rfl h1 hdg kk
theorem r_lald (hX : CallFix p m c cc nL s args (qc :: tG) own) (hWd : Wd E K G L M H0 H locs s) (ha : K a = 2) {i : Int32} {j : Nat} (hj : ix i (G a) = some j) (hdg : decode cc pc = .ok (.laload, 1)) (kk : W p l e R s m args below meth c H locs 0 0 Q (F0 m (pc + 1) ls (.long (gl M a j) :: rest))) : W p l e R s m args below meth c H locs 0 0 Q (F0 m pc ls (.int i :: .ref a :: rest)) := by
  obtain ⟨q, hq⟩ := pool hWd (show K a ≠ 0 by rw [ha]; decide)
  rw [enc2 ha] at hq
  obtain ⟨h1, rfl⟩ := ixE hj
  exact va_lald hX.1 hX.2.1 hWd.2.2.2.1 hWd.1 q 1 hq rfl h1 hdg kk
theorem r_tald (hX : CallFix p m c cc nL s args (qc :: tG) own) (hWd : Wd E K G L M H0 H locs s) (ha : K a = 3) {i : Int32} {j : Nat} (hj : ix i (G a) = some j) (hdg : decode cc pc = .ok (.aaload, 1)) (kk : W p l e R s m args below meth c H locs 0 0 Q (F0 m (pc + 1) ls (.ref (gr M a j) :: rest))) : W p l e R s m args below meth c H locs 0 0 Q (F0 m pc ls (.int i :: .ref a :: rest)) := by
  obtain ⟨q, hq⟩ := pool hWd (show K a ≠ 0 by rw [ha]; decide)
  rw [enc3 ha] at hq
  obtain ⟨h1, rfl⟩ := ixE hj
  exact va_aldq hX.1 hX.2.1 hWd.2.2.2.1 hWd.1 q 2 hq rfl h1 hdg kk
theorem r_gald (hX : CallFix p m c cc nL s args (qc :: tG) own) (hWd : Wd E K G L M H0 H locs s) (ha : K a = 4) {i : Int32} {j : Nat} (hj : ix i (G a) = some j) (hdg : decode cc pc = .ok (.aaload, 1)) (kk : W p l e R s m args below meth c H locs 0 0 Q (F0 m (pc + 1) ls (.ref (gr M a j) :: rest))) : W p l e R s m args below meth c H locs 0 0 Q (F0 m pc ls (.int i :: .ref a :: rest)) := by
  obtain ⟨q, hq⟩ := pool hWd (show K a ≠ 0 by rw [ha]; decide)
  rw [enc4 ha] at hq
  obtain ⟨h1, rfl⟩ := ixE hj
  have hlt : i.toNatClampNeg < G a := Nat.not_le.mp fun q => h1 (Or.inr q)
  exact W.aald (v := .ref (gr M a i.toNatClampNeg)) (ty := .array .long) hX.1 hX.2.1 (hWd.1 q _ hq) ((hWd.2.2.2.1.2 3 _ rfl).1 (G a) (fun j => va_rf (some (M.2.2 a j)))) rfl (fun q => by cases q) (by show ¬ (i < 0 ∨ (arrV _ _ _).slots.size ≤ _); rw [arrV_size]; exact h1) (by show (arrV _ _ _).slots[_]? = _; rw [arrV_read _ _ hlt]; rfl) rfl rfl hdg kk
theorem r_iast (hX : CallFix p m c cc nL s args (qc :: tG) own) (hWd : Wd E K G L M H0 H locs s) (ha : K a = 1) {i x : Int32} {j : Nat} (hj : ix i (G a) = some j) (hdg : decode cc pc = .ok (.iastore, 1)) (kk : ∀ (H1 : Heap) (locs1 : List Loc), Wd E K G L (si M a j x) H0 H1 locs1 s → W p l e R s m args below meth c H1 locs1 0 0 Q (F0 m (pc + 1) ls rest)) : W p l e R s m args below meth c H locs 0 0 Q (F0 m pc ls (.int x :: .int i :: .ref a :: rest)) := by
  have h0 : K a ≠ 0 := by rw [ha]; decide
  obtain ⟨q, hq⟩ := pool hWd h0
  have hq0 := hq
  rw [enc1 ha] at hq
  obtain ⟨h1, rfl⟩ := ixE hj
  exact va_iast hX.1 hX.2.1 hWd.2.2.2.1 hWd.1 hWd.2.1 hWd.2.2.1 q 0 hq rfl h1 hdg (fun H1 locs1 hP _ hS => kk H1 locs1 (moved hWd hq0 h0 (si_up (by rw [enc1 ha, si_1])) hWd.2.2.2.2.1 hP hS))
theorem r_last (hX : CallFix p m c cc nL s args (qc :: tG) own) (hWd : Wd E K G L M H0 H locs s) (ha : K a = 2) {i : Int32} {x : Int64} {j : Nat} (hj : ix i (G a) = some j) (hdg : decode cc pc = .ok (.lastore, 1)) (kk : ∀ (H1 : Heap) (locs1 : List Loc), Wd E K G L (sl M a j x) H0 H1 locs1 s → W p l e R s m args below meth c H1 locs1 0 0 Q (F0 m (pc + 1) ls rest)) : W p l e R s m args below meth c H locs 0 0 Q (F0 m pc ls (.long x :: .int i :: .ref a :: rest)) := by
  have h0 : K a ≠ 0 := by rw [ha]; decide
  obtain ⟨q, hq⟩ := pool hWd h0
  have hq0 := hq
  rw [enc2 ha] at hq
  obtain ⟨h1, rfl⟩ := ixE hj
  exact va_last hX.1 hX.2.1 hWd.2.2.2.1 hWd.1 hWd.2.1 hWd.2.2.1 q 1 hq rfl h1 hdg (fun H1 locs1 hP _ hS => kk H1 locs1 (moved hWd hq0 h0 (sl_up (by rw [enc2 ha, sl_1])) hWd.2.2.2.2.1 hP hS))
theorem r_len (hX : CallFix p m c cc nL s args (qc :: tG) own) (hWd : Wd E K G L M H0 H locs s) {k : Nat} (ha : K a = 3) (hdg : decode cc pc = .ok (.arraylength, 1)) (kk : W p l e R s m args below meth c H locs 0 0 Q (F0 m (pc + 1) ls (.int (Int32.ofNat (G a)) :: rest))) : W p l e R s m args below meth c H locs 0 0 Q (F0 m pc ls (.ref a :: rest)) := by
  obtain ⟨q, hq⟩ := pool hWd (show K a ≠ 0 by rw [ha]; decide)
  rw [enc3 ha] at hq
  exact va_alen hX.1 hX.2.1 hWd.2.2.2.1 hWd.1 q 2 hq rfl rfl hdg kk
theorem r_get (hX : CallFix p m c cc nL s args (qc :: tG) own) {C ref : String} {T : u_T} {N ci : Nat} (hin : ∀ w ∈ u_ws C T N, w ∈ tG) (hWd : Wd E K G L M H0 H locs s) {fs : List Value} (h0 : K a ≠ 0) (he : enc E K G M a = .inr (ci, fs)) (hc : classes[ci]? = some (C, T, N)) (k : Nat) (hk : k < N) (hlink : Cond.fieldLink own idx ref (T k).2.1 (T k).2.2.1 ∈ tG) (hr : ref = (T k).1) {v : Value} (hv : fs[k]? = some v) (hdg : decode cc pc = .ok (.getfield idx, 3)) (kk : W p l e R s m args below meth c H locs 0 0 Q (F0 m (pc + 3) ls (v :: rest))) : W p l e R s m args below meth c H locs 0 0 Q (F0 m pc ls (.ref a :: rest)) := by
  obtain ⟨q, hq⟩ := pool hWd h0
  rw [he] at hq
  subst hr
  exact va_get hX.1 hX.2.1 hX.2.2.2.2 (fun w hw => List.mem_cons_of_mem _ (hin w hw)) hX.2.2.2.1 hWd.2.2.2.1 hWd.1 q hq hc k hk (hX.2.2.2.2 _ (List.mem_cons_of_mem _ hlink)) (fun _ h => h) hv hdg kk
theorem r_put (hX : CallFix p m c cc nL s args (qc :: tG) own) {C ref : String} {T : u_T} {N ci : Nat} (hin : ∀ w ∈ u_ws C T N, w ∈ tG) (ty0 : Nat → FieldType) (hty : ∀ k, k < N → parseFieldDescriptor (T k).2.2.1 = some (ty0 k)) (hnm : ∀ a, a < N → ∀ b, b < N → a ≠ b → (T a).2.1 ≠ (T b).2.1) (hWd : Wd E K G L M H0 H locs s) {fs : List Value} (h0 : K a ≠ 0) (he : enc E K G M a = .inr (ci, fs)) (hc : classes[ci]? = some (C, T, N)) (k : Nat) (hk : k < N) (hlink : Cond.fieldLink own idx ref (T k).2.1 (T k).2.2.1 ∈ tG) (hr : ref = (T k).1) (hfin : (T k).2.2.2 = false) {ty : FieldType} {v : Value} (hd : parseFieldDescriptor (T k).2.2.1 = some ty) (hn : narrow ty v = v) (hfit : fits ty v = true) (hl : k < fs.length) {M2 : Mm} (hu : va_up (enc E K G M) a (.inr (ci, fs.set k v)) = enc E K G M2) (hI : M2.2.2 = M.2.2)
    (hdg : decode cc pc = .ok (.putfield idx, 3)) (kk : ∀ (H1 : Heap) (locs1 : List Loc), Wd E K G L M2 H0 H1 locs1 s → W p l e R s m args below meth c H1 locs1 0 0 Q (F0 m (pc + 3) ls rest)) : W p l e R s m args below meth c H locs 0 0 Q (F0 m pc ls (v :: .ref a :: rest)) := by
  obtain ⟨q, hq⟩ := pool hWd h0
  have hq0 := hq
  rw [he] at hq
  subst hr
  exact va_put hX.1 hX.2.1 hX.2.2.2.2 (fun w hw => List.mem_cons_of_mem _ (hin w hw)) ty0 hty hnm hX.2.2.2.1 hWd.2.2.2.1 hWd.1 hWd.2.1 hWd.2.2.1 q hq hc k hk (hX.2.2.2.2 _ (List.mem_cons_of_mem _ hlink)) (fun _ h => h) hfin hd hn hfit hl hdg (fun H1 locs1 hP _ hS => kk H1 locs1 (moved hWd hq0 h0 hu (by rw [hI]; exact hWd.2.2.2.2.1) hP hS))
theorem g_NT_working (hX : CallFix p m c cc nL s args (qc :: tG) own) (hlink : Cond.fieldLink own idx "NibbleTrie" "working" "LNibbleTrie$Trie;" ∈ tG) (hWd : Wd E K G L M H0 H locs s) (ha : K a = 5) (hdg : decode cc pc = .ok (.getfield idx, 3)) (kk : W p l e R s m args below meth c H locs 0 0 Q (F0 m (pc + 3) ls (.ref (gr M a 0) :: rest))) : W p l e R s m args below meth c H locs 0 0 Q (F0 m pc ls (.ref a :: rest)) := r_get hX in_NT hWd (by rw [ha]; decide) (enc5 ha) rfl 0 (by decide) hlink rfl rfl hdg kk
theorem v_NT_working (hWd : Wd E K G L M H0 H locs s) (ha : K a = 5) : K (gr M a 0) = 6 := (hWd.2.2.2.2.1.2.2.2.1 a ha).1
theorem g_NT_kept (hX : CallFix p m c cc nL s args (qc :: tG) own) (hlink : Cond.fieldLink own idx "NibbleTrie" "kept" "[LNibbleTrie$Trie;" ∈ tG) (hWd : Wd E K G L M H0 H locs s) (ha : K a = 5) (hdg : decode cc pc = .ok (.getfield idx, 3)) (kk : W p l e R s m args below meth c H locs 0 0 Q (F0 m (pc + 3) ls (.ref (gr M a 1) :: rest))) : W p l e R s m args below meth c H locs 0 0 Q (F0 m pc ls (.ref a :: rest)) := r_get hX in_NT hWd (by rw [ha]; decide) (enc5 ha) rfl 1 (by decide) hlink rfl rfl hdg kk
theorem v_NT_kept (hWd : Wd E K G L M H0 H locs s) (ha : K a = 5) : K (gr M a 1) = 3 := (hWd.2.2.2.2.1.2.2.2.1 a ha).2.1
theorem g_NT_keptNow (hX : CallFix p m c cc nL s args (qc :: tG) own) (hlink : Cond.fieldLink own idx "NibbleTrie" "keptNow" "I" ∈ tG) (hWd : Wd E K G L M H0 H locs s) (ha : K a = 5) (hdg : decode cc pc = .ok (.getfield idx, 3)) (kk : W p l e R s m args below meth c H locs 0 0 Q (F0 m (pc + 3) ls (.int (gi M a 2) :: rest))) : W p l e R s m args below meth c H locs 0 0 Q (F0 m pc ls (.ref a :: rest)) := r_get hX in_NT hWd (by rw [ha]; decide) (enc5 ha) rfl 2 (by decide) hlink rfl rfl hdg kk
theorem p_NT_keptNow (hX : CallFix p m c cc nL s args (qc :: tG) own) (hlink : Cond.fieldLink own idx "NibbleTrie" "keptNow" "I" ∈ tG) (hWd : Wd E K G L M H0 H locs s) (ha : K a = 5) {x : Int32} (hdg : decode cc pc = .ok (.putfield idx, 3)) (kk : ∀ (H1 : Heap) (locs1 : List Loc), Wd E K G L (si M a 2 x) H0 H1 locs1 s → W p l e R s m args below meth c H1 locs1 0 0 Q (F0 m (pc + 3) ls rest)) : W p l e R s m args below meth c H locs 0 0 Q (F0 m pc ls (.int x :: .ref a :: rest)) := r_put hX in_NT T_NT T_NT_ok n_NT hWd (by rw [ha]; decide) (enc5 ha) rfl 2 (by decide) hlink rfl rfl (ty := .int) (by decide +kernel) rfl rfl (Nat.le_of_ble_eq_true rfl) (si_up (by rw [enc5 ha]; simp [si])) rfl hdg kk
theorem g_NT_proof (hX : CallFix p m c cc nL s args (qc :: tG) own) (hlink : Cond.fieldLink own idx "NibbleTrie" "proof" "LNibbleTrie$Proof;" ∈ tG) (hWd : Wd E K G L M H0 H locs s) (ha : K a = 5) (hdg : decode cc pc = .ok (.getfield idx, 3)) (kk : W p l e R s m args below meth c H locs 0 0 Q (F0 m (pc + 3) ls (.ref (gr M a 3) :: rest))) : W p l e R s m args below meth c H locs 0 0 Q (F0 m pc ls (.ref a :: rest)) := r_get hX in_NT hWd (by rw [ha]; decide) (enc5 ha) rfl 3 (by decide) hlink rfl rfl hdg kk
theorem v_NT_proof (hWd : Wd E K G L M H0 H locs s) (ha : K a = 5) : K (gr M a 3) = 8 := (hWd.2.2.2.2.1.2.2.2.1 a ha).2.2
theorem g_TR_map (hX : CallFix p m c cc nL s args (qc :: tG) own) (hlink : Cond.fieldLink own idx "NibbleTrie$Trie" "map" "LNibbleTrie$PathMap;" ∈ tG) (hWd : Wd E K G L M H0 H locs s) (ha : K a = 6) (hdg : decode cc pc = .ok (.getfield idx, 3)) (kk : W p l e R s m args below meth c H locs 0 0 Q (F0 m (pc + 3) ls (.ref (gr M a 0) :: rest))) : W p l e R s m args below meth c H locs 0 0 Q (F0 m pc ls (.ref a :: rest)) := r_get hX in_TR hWd (by rw [ha]; decide) (enc6 ha) rfl 0 (by decide) hlink rfl rfl hdg kk
theorem v_TR_map (hWd : Wd E K G L M H0 H locs s) (ha : K a = 6) : K (gr M a 0) = 7 := (hWd.2.2.2.2.1.2.2.2.2.1 a ha).1
theorem g_TR_leaves (hX : CallFix p m c cc nL s args (qc :: tG) own) (hlink : Cond.fieldLink own idx "NibbleTrie$Trie" "leaves" "I" ∈ tG) (hWd : Wd E K G L M H0 H locs s) (ha : K a = 6) (hdg : decode cc pc = .ok (.getfield idx, 3)) (kk : W p l e R s m args below meth c H locs 0 0 Q (F0 m (pc + 3) ls (.int (gi M a 1) :: rest))) : W p l e R s m args below meth c H locs 0 0 Q (F0 m pc ls (.ref a :: rest)) := r_get hX in_TR hWd (by rw [ha]; decide) (enc6 ha) rfl 1 (by decide) hlink rfl rfl hdg kk
theorem p_TR_leaves (hX : CallFix p m c cc nL s args (qc :: tG) own) (hlink : Cond.fieldLink own idx "NibbleTrie$Trie" "leaves" "I" ∈ tG) (hWd : Wd E K G L M H0 H locs s) (ha : K a = 6) {x : Int32} (hdg : decode cc pc = .ok (.putfield idx, 3)) (kk : ∀ (H1 : Heap) (locs1 : List Loc), Wd E K G L (si M a 1 x) H0 H1 locs1 s → W p l e R s m args below meth c H1 locs1 0 0 Q (F0 m (pc + 3) ls rest)) : W p l e R s m args below meth c H locs 0 0 Q (F0 m pc ls (.int x :: .ref a :: rest)) := r_put hX in_TR T_TR T_TR_ok n_TR hWd (by rw [ha]; decide) (enc6 ha) rfl 1 (by decide) hlink rfl rfl (ty := .int) (by decide +kernel) rfl rfl (Nat.le_of_ble_eq_true rfl) (si_up (by rw [enc6 ha]; simp [si])) rfl hdg kk
theorem g_TR_extensions (hX : CallFix p m c cc nL s args (qc :: tG) own) (hlink : Cond.fieldLink own idx "NibbleTrie$Trie" "extensions" "I" ∈ tG) (hWd : Wd E K G L M H0 H locs s) (ha : K a = 6) (hdg : decode cc pc = .ok (.getfield idx, 3)) (kk : W p l e R s m args below meth c H locs 0 0 Q (F0 m (pc + 3) ls (.int (gi M a 2) :: rest))) : W p l e R s m args below meth c H locs 0 0 Q (F0 m pc ls (.ref a :: rest)) := r_get hX in_TR hWd (by rw [ha]; decide) (enc6 ha) rfl 2 (by decide) hlink rfl rfl hdg kk
theorem p_TR_extensions (hX : CallFix p m c cc nL s args (qc :: tG) own) (hlink : Cond.fieldLink own idx "NibbleTrie$Trie" "extensions" "I" ∈ tG) (hWd : Wd E K G L M H0 H locs s) (ha : K a = 6) {x : Int32} (hdg : decode cc pc = .ok (.putfield idx, 3)) (kk : ∀ (H1 : Heap) (locs1 : List Loc), Wd E K G L (si M a 2 x) H0 H1 locs1 s → W p l e R s m args below meth c H1 locs1 0 0 Q (F0 m (pc + 3) ls rest)) : W p l e R s m args below meth c H locs 0 0 Q (F0 m pc ls (.int x :: .ref a :: rest)) := r_put hX in_TR T_TR T_TR_ok n_TR hWd (by rw [ha]; decide) (enc6 ha) rfl 2 (by decide) hlink rfl rfl (ty := .int) (by decide +kernel) rfl rfl (Nat.le_of_ble_eq_true rfl) (si_up (by rw [enc6 ha]; simp [si])) rfl hdg kk
theorem g_TR_branches (hX : CallFix p m c cc nL s args (qc :: tG) own) (hlink : Cond.fieldLink own idx "NibbleTrie$Trie" "branches" "I" ∈ tG) (hWd : Wd E K G L M H0 H locs s) (ha : K a = 6) (hdg : decode cc pc = .ok (.getfield idx, 3)) (kk : W p l e R s m args below meth c H locs 0 0 Q (F0 m (pc + 3) ls (.int (gi M a 3) :: rest))) : W p l e R s m args below meth c H locs 0 0 Q (F0 m pc ls (.ref a :: rest)) := r_get hX in_TR hWd (by rw [ha]; decide) (enc6 ha) rfl 3 (by decide) hlink rfl rfl hdg kk
theorem p_TR_branches (hX : CallFix p m c cc nL s args (qc :: tG) own) (hlink : Cond.fieldLink own idx "NibbleTrie$Trie" "branches" "I" ∈ tG) (hWd : Wd E K G L M H0 H locs s) (ha : K a = 6) {x : Int32} (hdg : decode cc pc = .ok (.putfield idx, 3)) (kk : ∀ (H1 : Heap) (locs1 : List Loc), Wd E K G L (si M a 3 x) H0 H1 locs1 s → W p l e R s m args below meth c H1 locs1 0 0 Q (F0 m (pc + 3) ls rest)) : W p l e R s m args below meth c H locs 0 0 Q (F0 m pc ls (.int x :: .ref a :: rest)) := r_put hX in_TR T_TR T_TR_ok n_TR hWd (by rw [ha]; decide) (enc6 ha) rfl 3 (by decide) hlink rfl rfl (ty := .int) (by decide +kernel) rfl rfl (Nat.le_of_ble_eq_true rfl) (si_up (by rw [enc6 ha]; simp [si])) rfl hdg kk
theorem g_TR_parent (hX : CallFix p m c cc nL s args (qc :: tG) own) (hlink : Cond.fieldLink own idx "NibbleTrie$Trie" "parent" "[I" ∈ tG) (hWd : Wd E K G L M H0 H locs s) (ha : K a = 6) (hdg : decode cc pc = .ok (.getfield idx, 3)) (kk : W p l e R s m args below meth c H locs 0 0 Q (F0 m (pc + 3) ls (.ref (gr M a 4) :: rest))) : W p l e R s m args below meth c H locs 0 0 Q (F0 m pc ls (.ref a :: rest)) := r_get hX in_TR hWd (by rw [ha]; decide) (enc6 ha) rfl 4 (by decide) hlink rfl rfl hdg kk
theorem v_TR_parent (hWd : Wd E K G L M H0 H locs s) (ha : K a = 6) : K (gr M a 4) = 1 := (hWd.2.2.2.2.1.2.2.2.2.1 a ha).2.1
theorem g_TR_firstRow (hX : CallFix p m c cc nL s args (qc :: tG) own) (hlink : Cond.fieldLink own idx "NibbleTrie$Trie" "firstRow" "[I" ∈ tG) (hWd : Wd E K G L M H0 H locs s) (ha : K a = 6) (hdg : decode cc pc = .ok (.getfield idx, 3)) (kk : W p l e R s m args below meth c H locs 0 0 Q (F0 m (pc + 3) ls (.ref (gr M a 5) :: rest))) : W p l e R s m args below meth c H locs 0 0 Q (F0 m pc ls (.ref a :: rest)) := r_get hX in_TR hWd (by rw [ha]; decide) (enc6 ha) rfl 5 (by decide) hlink rfl rfl hdg kk
theorem v_TR_firstRow (hWd : Wd E K G L M H0 H locs s) (ha : K a = 6) : K (gr M a 5) = 1 := (hWd.2.2.2.2.1.2.2.2.2.1 a ha).2.2.1
theorem g_TR_endRow (hX : CallFix p m c cc nL s args (qc :: tG) own) (hlink : Cond.fieldLink own idx "NibbleTrie$Trie" "endRow" "[I" ∈ tG) (hWd : Wd E K G L M H0 H locs s) (ha : K a = 6) (hdg : decode cc pc = .ok (.getfield idx, 3)) (kk : W p l e R s m args below meth c H locs 0 0 Q (F0 m (pc + 3) ls (.ref (gr M a 6) :: rest))) : W p l e R s m args below meth c H locs 0 0 Q (F0 m pc ls (.ref a :: rest)) := r_get hX in_TR hWd (by rw [ha]; decide) (enc6 ha) rfl 6 (by decide) hlink rfl rfl hdg kk
theorem v_TR_endRow (hWd : Wd E K G L M H0 H locs s) (ha : K a = 6) : K (gr M a 6) = 1 := (hWd.2.2.2.2.1.2.2.2.2.1 a ha).2.2.2.1
theorem g_TR_depth (hX : CallFix p m c cc nL s args (qc :: tG) own) (hlink : Cond.fieldLink own idx "NibbleTrie$Trie" "depth" "[I" ∈ tG) (hWd : Wd E K G L M H0 H locs s) (ha : K a = 6) (hdg : decode cc pc = .ok (.getfield idx, 3)) (kk : W p l e R s m args below meth c H locs 0 0 Q (F0 m (pc + 3) ls (.ref (gr M a 7) :: rest))) : W p l e R s m args below meth c H locs 0 0 Q (F0 m pc ls (.ref a :: rest)) := r_get hX in_TR hWd (by rw [ha]; decide) (enc6 ha) rfl 7 (by decide) hlink rfl rfl hdg kk
theorem v_TR_depth (hWd : Wd E K G L M H0 H locs s) (ha : K a = 6) : K (gr M a 7) = 1 := (hWd.2.2.2.2.1.2.2.2.2.1 a ha).2.2.2.2.1
theorem g_TR_topReference (hX : CallFix p m c cc nL s args (qc :: tG) own) (hlink : Cond.fieldLink own idx "NibbleTrie$Trie" "topReference" "[J" ∈ tG) (hWd : Wd E K G L M H0 H locs s) (ha : K a = 6) (hdg : decode cc pc = .ok (.getfield idx, 3)) (kk : W p l e R s m args below meth c H locs 0 0 Q (F0 m (pc + 3) ls (.ref (gr M a 8) :: rest))) : W p l e R s m args below meth c H locs 0 0 Q (F0 m pc ls (.ref a :: rest)) := r_get hX in_TR hWd (by rw [ha]; decide) (enc6 ha) rfl 8 (by decide) hlink rfl rfl hdg kk
theorem v_TR_topReference (hWd : Wd E K G L M H0 H locs s) (ha : K a = 6) : K (gr M a 8) = 2 := (hWd.2.2.2.2.1.2.2.2.2.1 a ha).2.2.2.2.2.1
theorem g_TR_drafts (hX : CallFix p m c cc nL s args (qc :: tG) own) (hlink : Cond.fieldLink own idx "NibbleTrie$Trie" "drafts" "[[J" ∈ tG) (hWd : Wd E K G L M H0 H locs s) (ha : K a = 6) (hdg : decode cc pc = .ok (.getfield idx, 3)) (kk : W p l e R s m args below meth c H locs 0 0 Q (F0 m (pc + 3) ls (.ref (gr M a 9) :: rest))) : W p l e R s m args below meth c H locs 0 0 Q (F0 m pc ls (.ref a :: rest)) := r_get hX in_TR hWd (by rw [ha]; decide) (enc6 ha) rfl 9 (by decide) hlink rfl rfl hdg kk
theorem v_TR_drafts (hWd : Wd E K G L M H0 H locs s) (ha : K a = 6) : K (gr M a 9) = 4 := (hWd.2.2.2.2.1.2.2.2.2.1 a ha).2.2.2.2.2.2
theorem g_PM_paths (hX : CallFix p m c cc nL s args (qc :: tG) own) (hlink : Cond.fieldLink own idx "NibbleTrie$PathMap" "paths" "[I" ∈ tG) (hWd : Wd E K G L M H0 H locs s) (ha : K a = 7) (hdg : decode cc pc = .ok (.getfield idx, 3)) (kk : W p l e R s m args below meth c H locs 0 0 Q (F0 m (pc + 3) ls (.ref (gr M a 0) :: rest))) : W p l e R s m args below meth c H locs 0 0 Q (F0 m pc ls (.ref a :: rest)) := r_get hX in_PM hWd (by rw [ha]; decide) (enc7 ha) rfl 0 (by decide) hlink rfl rfl hdg kk
theorem v_PM_paths (hWd : Wd E K G L M H0 H locs s) (ha : K a = 7) : K (gr M a 0) = 1 := (hWd.2.2.2.2.1.2.2.2.2.2.1 a ha).1
theorem g_PM_values (hX : CallFix p m c cc nL s args (qc :: tG) own) (hlink : Cond.fieldLink own idx "NibbleTrie$PathMap" "values" "[I" ∈ tG) (hWd : Wd E K G L M H0 H locs s) (ha : K a = 7) (hdg : decode cc pc = .ok (.getfield idx, 3)) (kk : W p l e R s m args below meth c H locs 0 0 Q (F0 m (pc + 3) ls (.ref (gr M a 1) :: rest))) : W p l e R s m args below meth c H locs 0 0 Q (F0 m pc ls (.ref a :: rest)) := r_get hX in_PM hWd (by rw [ha]; decide) (enc7 ha) rfl 1 (by decide) hlink rfl rfl hdg kk
theorem v_PM_values (hWd : Wd E K G L M H0 H locs s) (ha : K a = 7) : K (gr M a 1) = 1 := (hWd.2.2.2.2.1.2.2.2.2.2.1 a ha).2
theorem g_PM_rows (hX : CallFix p m c cc nL s args (qc :: tG) own) (hlink : Cond.fieldLink own idx "NibbleTrie$PathMap" "rows" "I" ∈ tG) (hWd : Wd E K G L M H0 H locs s) (ha : K a = 7) (hdg : decode cc pc = .ok (.getfield idx, 3)) (kk : W p l e R s m args below meth c H locs 0 0 Q (F0 m (pc + 3) ls (.int (gi M a 2) :: rest))) : W p l e R s m args below meth c H locs 0 0 Q (F0 m pc ls (.ref a :: rest)) := r_get hX in_PM hWd (by rw [ha]; decide) (enc7 ha) rfl 2 (by decide) hlink rfl rfl hdg kk
theorem p_PM_rows (hX : CallFix p m c cc nL s args (qc :: tG) own) (hlink : Cond.fieldLink own idx "NibbleTrie$PathMap" "rows" "I" ∈ tG) (hWd : Wd E K G L M H0 H locs s) (ha : K a = 7) {x : Int32} (hdg : decode cc pc = .ok (.putfield idx, 3)) (kk : ∀ (H1 : Heap) (locs1 : List Loc), Wd E K G L (si M a 2 x) H0 H1 locs1 s → W p l e R s m args below meth c H1 locs1 0 0 Q (F0 m (pc + 3) ls rest)) : W p l e R s m args below meth c H locs 0 0 Q (F0 m pc ls (.int x :: .ref a :: rest)) := r_put hX in_PM T_PM T_PM_ok n_PM hWd (by rw [ha]; decide) (enc7 ha) rfl 2 (by decide) hlink rfl rfl (ty := .int) (by decide +kernel) rfl rfl (Nat.le_of_ble_eq_true rfl) (si_up (by rw [enc7 ha]; simp [si])) rfl hdg kk
theorem g_PF_words (hX : CallFix p m c cc nL s args (qc :: tG) own) (hlink : Cond.fieldLink own idx "NibbleTrie$Proof" "words" "[J" ∈ tG) (hWd : Wd E K G L M H0 H locs s) (ha : K a = 8) (hdg : decode cc pc = .ok (.getfield idx, 3)) (kk : W p l e R s m args below meth c H locs 0 0 Q (F0 m (pc + 3) ls (.ref (gr M a 0) :: rest))) : W p l e R s m args below meth c H locs 0 0 Q (F0 m pc ls (.ref a :: rest)) := r_get hX in_PF hWd (by rw [ha]; decide) (enc8 ha) rfl 0 (by decide) hlink rfl rfl hdg kk
theorem v_PF_words (hWd : Wd E K G L M H0 H locs s) (ha : K a = 8) : K (gr M a 0) = 2 := (hWd.2.2.2.2.1.2.2.2.2.2.2.1 a ha)
theorem g_PF_length (hX : CallFix p m c cc nL s args (qc :: tG) own) (hlink : Cond.fieldLink own idx "NibbleTrie$Proof" "length" "I" ∈ tG) (hWd : Wd E K G L M H0 H locs s) (ha : K a = 8) (hdg : decode cc pc = .ok (.getfield idx, 3)) (kk : W p l e R s m args below meth c H locs 0 0 Q (F0 m (pc + 3) ls (.int (gi M a 1) :: rest))) : W p l e R s m args below meth c H locs 0 0 Q (F0 m pc ls (.ref a :: rest)) := r_get hX in_PF hWd (by rw [ha]; decide) (enc8 ha) rfl 1 (by decide) hlink rfl rfl hdg kk
theorem p_PF_length (hX : CallFix p m c cc nL s args (qc :: tG) own) (hlink : Cond.fieldLink own idx "NibbleTrie$Proof" "length" "I" ∈ tG) (hWd : Wd E K G L M H0 H locs s) (ha : K a = 8) {x : Int32} (hdg : decode cc pc = .ok (.putfield idx, 3)) (kk : ∀ (H1 : Heap) (locs1 : List Loc), Wd E K G L (si M a 1 x) H0 H1 locs1 s → W p l e R s m args below meth c H1 locs1 0 0 Q (F0 m (pc + 3) ls rest)) : W p l e R s m args below meth c H locs 0 0 Q (F0 m pc ls (.int x :: .ref a :: rest)) := r_put hX in_PF T_PF T_PF_ok n_PF hWd (by rw [ha]; decide) (enc8 ha) rfl 1 (by decide) hlink rfl rfl (ty := .int) (by decide +kernel) rfl rfl (Nat.le_of_ble_eq_true rfl) (si_up (by rw [enc8 ha]; simp [si])) rfl hdg kk
theorem g_PF_state (hX : CallFix p m c cc nL s args (qc :: tG) own) (hlink : Cond.fieldLink own idx "NibbleTrie$Proof" "state" "I" ∈ tG) (hWd : Wd E K G L M H0 H locs s) (ha : K a = 8) (hdg : decode cc pc = .ok (.getfield idx, 3)) (kk : W p l e R s m args below meth c H locs 0 0 Q (F0 m (pc + 3) ls (.int (gi M a 2) :: rest))) : W p l e R s m args below meth c H locs 0 0 Q (F0 m pc ls (.ref a :: rest)) := r_get hX in_PF hWd (by rw [ha]; decide) (enc8 ha) rfl 2 (by decide) hlink rfl rfl hdg kk
theorem p_PF_state (hX : CallFix p m c cc nL s args (qc :: tG) own) (hlink : Cond.fieldLink own idx "NibbleTrie$Proof" "state" "I" ∈ tG) (hWd : Wd E K G L M H0 H locs s) (ha : K a = 8) {x : Int32} (hdg : decode cc pc = .ok (.putfield idx, 3)) (kk : ∀ (H1 : Heap) (locs1 : List Loc), Wd E K G L (si M a 2 x) H0 H1 locs1 s → W p l e R s m args below meth c H1 locs1 0 0 Q (F0 m (pc + 3) ls rest)) : W p l e R s m args below meth c H locs 0 0 Q (F0 m pc ls (.int x :: .ref a :: rest)) := r_put hX in_PF T_PF T_PF_ok n_PF hWd (by rw [ha]; decide) (enc8 ha) rfl 2 (by decide) hlink rfl rfl (ty := .int) (by decide +kernel) rfl rfl (Nat.le_of_ble_eq_true rfl) (si_up (by rw [enc8 ha]; simp [si])) rfl hdg kk
theorem g_PF_next (hX : CallFix p m c cc nL s args (qc :: tG) own) (hlink : Cond.fieldLink own idx "NibbleTrie$Proof" "next" "I" ∈ tG) (hWd : Wd E K G L M H0 H locs s) (ha : K a = 8) (hdg : decode cc pc = .ok (.getfield idx, 3)) (kk : W p l e R s m args below meth c H locs 0 0 Q (F0 m (pc + 3) ls (.int (gi M a 3) :: rest))) : W p l e R s m args below meth c H locs 0 0 Q (F0 m pc ls (.ref a :: rest)) := r_get hX in_PF hWd (by rw [ha]; decide) (enc8 ha) rfl 3 (by decide) hlink rfl rfl hdg kk
theorem p_PF_next (hX : CallFix p m c cc nL s args (qc :: tG) own) (hlink : Cond.fieldLink own idx "NibbleTrie$Proof" "next" "I" ∈ tG) (hWd : Wd E K G L M H0 H locs s) (ha : K a = 8) {x : Int32} (hdg : decode cc pc = .ok (.putfield idx, 3)) (kk : ∀ (H1 : Heap) (locs1 : List Loc), Wd E K G L (si M a 3 x) H0 H1 locs1 s → W p l e R s m args below meth c H1 locs1 0 0 Q (F0 m (pc + 3) ls rest)) : W p l e R s m args below meth c H locs 0 0 Q (F0 m pc ls (.int x :: .ref a :: rest)) := r_put hX in_PF T_PF T_PF_ok n_PF hWd (by rw [ha]; decide) (enc8 ha) rfl 3 (by decide) hlink rfl rfl (ty := .int) (by decide +kernel) rfl rfl (Nat.le_of_ble_eq_true rfl) (si_up (by rw [enc8 ha]; simp [si])) rfl hdg kk
theorem g_PF_left (hX : CallFix p m c cc nL s args (qc :: tG) own) (hlink : Cond.fieldLink own idx "NibbleTrie$Proof" "left" "I" ∈ tG) (hWd : Wd E K G L M H0 H locs s) (ha : K a = 8) (hdg : decode cc pc = .ok (.getfield idx, 3)) (kk : W p l e R s m args below meth c H locs 0 0 Q (F0 m (pc + 3) ls (.int (gi M a 4) :: rest))) : W p l e R s m args below meth c H locs 0 0 Q (F0 m pc ls (.ref a :: rest)) := r_get hX in_PF hWd (by rw [ha]; decide) (enc8 ha) rfl 4 (by decide) hlink rfl rfl hdg kk
theorem p_PF_left (hX : CallFix p m c cc nL s args (qc :: tG) own) (hlink : Cond.fieldLink own idx "NibbleTrie$Proof" "left" "I" ∈ tG) (hWd : Wd E K G L M H0 H locs s) (ha : K a = 8) {x : Int32} (hdg : decode cc pc = .ok (.putfield idx, 3)) (kk : ∀ (H1 : Heap) (locs1 : List Loc), Wd E K G L (si M a 4 x) H0 H1 locs1 s → W p l e R s m args below meth c H1 locs1 0 0 Q (F0 m (pc + 3) ls rest)) : W p l e R s m args below meth c H locs 0 0 Q (F0 m pc ls (.int x :: .ref a :: rest)) := r_put hX in_PF T_PF T_PF_ok n_PF hWd (by rw [ha]; decide) (enc8 ha) rfl 4 (by decide) hlink rfl rfl (ty := .int) (by decide +kernel) rfl rfl (Nat.le_of_ble_eq_true rfl) (si_up (by rw [enc8 ha]; simp [si])) rfl hdg kk
theorem g_PF_reference (hX : CallFix p m c cc nL s args (qc :: tG) own) (hlink : Cond.fieldLink own idx "NibbleTrie$Proof" "reference" "I" ∈ tG) (hWd : Wd E K G L M H0 H locs s) (ha : K a = 8) (hdg : decode cc pc = .ok (.getfield idx, 3)) (kk : W p l e R s m args below meth c H locs 0 0 Q (F0 m (pc + 3) ls (.int (gi M a 5) :: rest))) : W p l e R s m args below meth c H locs 0 0 Q (F0 m pc ls (.ref a :: rest)) := r_get hX in_PF hWd (by rw [ha]; decide) (enc8 ha) rfl 5 (by decide) hlink rfl rfl hdg kk
theorem p_PF_reference (hX : CallFix p m c cc nL s args (qc :: tG) own) (hlink : Cond.fieldLink own idx "NibbleTrie$Proof" "reference" "I" ∈ tG) (hWd : Wd E K G L M H0 H locs s) (ha : K a = 8) {x : Int32} (hdg : decode cc pc = .ok (.putfield idx, 3)) (kk : ∀ (H1 : Heap) (locs1 : List Loc), Wd E K G L (si M a 5 x) H0 H1 locs1 s → W p l e R s m args below meth c H1 locs1 0 0 Q (F0 m (pc + 3) ls rest)) : W p l e R s m args below meth c H locs 0 0 Q (F0 m pc ls (.int x :: .ref a :: rest)) := r_put hX in_PF T_PF T_PF_ok n_PF hWd (by rw [ha]; decide) (enc8 ha) rfl 5 (by decide) hlink rfl rfl (ty := .int) (by decide +kernel) rfl rfl (Nat.le_of_ble_eq_true rfl) (si_up (by rw [enc8 ha]; simp [si])) rfl hdg kk
theorem g_PF_referenceWords (hX : CallFix p m c cc nL s args (qc :: tG) own) (hlink : Cond.fieldLink own idx "NibbleTrie$Proof" "referenceWords" "I" ∈ tG) (hWd : Wd E K G L M H0 H locs s) (ha : K a = 8) (hdg : decode cc pc = .ok (.getfield idx, 3)) (kk : W p l e R s m args below meth c H locs 0 0 Q (F0 m (pc + 3) ls (.int (gi M a 6) :: rest))) : W p l e R s m args below meth c H locs 0 0 Q (F0 m pc ls (.ref a :: rest)) := r_get hX in_PF hWd (by rw [ha]; decide) (enc8 ha) rfl 6 (by decide) hlink rfl rfl hdg kk
theorem p_PF_referenceWords (hX : CallFix p m c cc nL s args (qc :: tG) own) (hlink : Cond.fieldLink own idx "NibbleTrie$Proof" "referenceWords" "I" ∈ tG) (hWd : Wd E K G L M H0 H locs s) (ha : K a = 8) {x : Int32} (hdg : decode cc pc = .ok (.putfield idx, 3)) (kk : ∀ (H1 : Heap) (locs1 : List Loc), Wd E K G L (si M a 6 x) H0 H1 locs1 s → W p l e R s m args below meth c H1 locs1 0 0 Q (F0 m (pc + 3) ls rest)) : W p l e R s m args below meth c H locs 0 0 Q (F0 m pc ls (.int x :: .ref a :: rest)) := r_put hX in_PF T_PF T_PF_ok n_PF hWd (by rw [ha]; decide) (enc8 ha) rfl 6 (by decide) hlink rfl rfl (ty := .int) (by decide +kernel) rfl rfl (Nat.le_of_ble_eq_true rfl) (si_up (by rw [enc8 ha]; simp [si])) rfl hdg kk
theorem g_PF_shown (hX : CallFix p m c cc nL s args (qc :: tG) own) (hlink : Cond.fieldLink own idx "NibbleTrie$Proof" "shown" "J" ∈ tG) (hWd : Wd E K G L M H0 H locs s) (ha : K a = 8) (hdg : decode cc pc = .ok (.getfield idx, 3)) (kk : W p l e R s m args below meth c H locs 0 0 Q (F0 m (pc + 3) ls (.long (gl M a 7) :: rest))) : W p l e R s m args below meth c H locs 0 0 Q (F0 m pc ls (.ref a :: rest)) := r_get hX in_PF hWd (by rw [ha]; decide) (enc8 ha) rfl 7 (by decide) hlink rfl rfl hdg kk
theorem p_PF_shown (hX : CallFix p m c cc nL s args (qc :: tG) own) (hlink : Cond.fieldLink own idx "NibbleTrie$Proof" "shown" "J" ∈ tG) (hWd : Wd E K G L M H0 H locs s) (ha : K a = 8) {x : Int64} (hdg : decode cc pc = .ok (.putfield idx, 3)) (kk : ∀ (H1 : Heap) (locs1 : List Loc), Wd E K G L (sl M a 7 x) H0 H1 locs1 s → W p l e R s m args below meth c H1 locs1 0 0 Q (F0 m (pc + 3) ls rest)) : W p l e R s m args below meth c H locs 0 0 Q (F0 m pc ls (.long x :: .ref a :: rest)) := r_put hX in_PF T_PF T_PF_ok n_PF hWd (by rw [ha]; decide) (enc8 ha) rfl 7 (by decide) hlink rfl rfl (ty := .long) (by decide +kernel) rfl rfl (Nat.le_of_ble_eq_true rfl) (sl_up (by rw [enc8 ha]; simp [sl])) rfl hdg kk
theorem g_MO_keys (hX : CallFix p m c cc nL s args (qc :: tG) own) (hlink : Cond.fieldLink own idx "NibbleTrieModel" "keys" "[I" ∈ tG) (hWd : Wd E K G L M H0 H locs s) (ha : K a = 9) (hdg : decode cc pc = .ok (.getfield idx, 3)) (kk : W p l e R s m args below meth c H locs 0 0 Q (F0 m (pc + 3) ls (.ref (gr M a 0) :: rest))) : W p l e R s m args below meth c H locs 0 0 Q (F0 m pc ls (.ref a :: rest)) := r_get hX in_MO hWd (by rw [ha]; decide) (enc9 ha) rfl 0 (by decide) hlink rfl rfl hdg kk
theorem v_MO_keys (hWd : Wd E K G L M H0 H locs s) (ha : K a = 9) : K (gr M a 0) = 1 := (hWd.2.2.2.2.1.2.2.2.2.2.2.2 a ha).1
theorem g_MO_values (hX : CallFix p m c cc nL s args (qc :: tG) own) (hlink : Cond.fieldLink own idx "NibbleTrieModel" "values" "[I" ∈ tG) (hWd : Wd E K G L M H0 H locs s) (ha : K a = 9) (hdg : decode cc pc = .ok (.getfield idx, 3)) (kk : W p l e R s m args below meth c H locs 0 0 Q (F0 m (pc + 3) ls (.ref (gr M a 1) :: rest))) : W p l e R s m args below meth c H locs 0 0 Q (F0 m pc ls (.ref a :: rest)) := r_get hX in_MO hWd (by rw [ha]; decide) (enc9 ha) rfl 1 (by decide) hlink rfl rfl hdg kk
theorem v_MO_values (hWd : Wd E K G L M H0 H locs s) (ha : K a = 9) : K (gr M a 1) = 1 := (hWd.2.2.2.2.1.2.2.2.2.2.2.2 a ha).2.1
theorem g_MO_sizes (hX : CallFix p m c cc nL s args (qc :: tG) own) (hlink : Cond.fieldLink own idx "NibbleTrieModel" "sizes" "[I" ∈ tG) (hWd : Wd E K G L M H0 H locs s) (ha : K a = 9) (hdg : decode cc pc = .ok (.getfield idx, 3)) (kk : W p l e R s m args below meth c H locs 0 0 Q (F0 m (pc + 3) ls (.ref (gr M a 2) :: rest))) : W p l e R s m args below meth c H locs 0 0 Q (F0 m pc ls (.ref a :: rest)) := r_get hX in_MO hWd (by rw [ha]; decide) (enc9 ha) rfl 2 (by decide) hlink rfl rfl hdg kk
theorem v_MO_sizes (hWd : Wd E K G L M H0 H locs s) (ha : K a = 9) : K (gr M a 2) = 1 := (hWd.2.2.2.2.1.2.2.2.2.2.2.2 a ha).2.2.1
theorem g_MO_kept (hX : CallFix p m c cc nL s args (qc :: tG) own) (hlink : Cond.fieldLink own idx "NibbleTrieModel" "kept" "I" ∈ tG) (hWd : Wd E K G L M H0 H locs s) (ha : K a = 9) (hdg : decode cc pc = .ok (.getfield idx, 3)) (kk : W p l e R s m args below meth c H locs 0 0 Q (F0 m (pc + 3) ls (.int (gi M a 3) :: rest))) : W p l e R s m args below meth c H locs 0 0 Q (F0 m pc ls (.ref a :: rest)) := r_get hX in_MO hWd (by rw [ha]; decide) (enc9 ha) rfl 3 (by decide) hlink rfl rfl hdg kk
theorem p_MO_kept (hX : CallFix p m c cc nL s args (qc :: tG) own) (hlink : Cond.fieldLink own idx "NibbleTrieModel" "kept" "I" ∈ tG) (hWd : Wd E K G L M H0 H locs s) (ha : K a = 9) {x : Int32} (hdg : decode cc pc = .ok (.putfield idx, 3)) (kk : ∀ (H1 : Heap) (locs1 : List Loc), Wd E K G L (si M a 3 x) H0 H1 locs1 s → W p l e R s m args below meth c H1 locs1 0 0 Q (F0 m (pc + 3) ls rest)) : W p l e R s m args below meth c H locs 0 0 Q (F0 m pc ls (.int x :: .ref a :: rest)) := r_put hX in_MO T_MO T_MO_ok n_MO hWd (by rw [ha]; decide) (enc9 ha) rfl 3 (by decide) hlink rfl rfl (ty := .int) (by decide +kernel) rfl rfl (Nat.le_of_ble_eq_true rfl) (si_up (by rw [enc9 ha]; simp [si])) rfl hdg kk
theorem g_MO_many (hX : CallFix p m c cc nL s args (qc :: tG) own) (hlink : Cond.fieldLink own idx "NibbleTrieModel" "many" "I" ∈ tG) (hWd : Wd E K G L M H0 H locs s) (ha : K a = 9) (hdg : decode cc pc = .ok (.getfield idx, 3)) (kk : W p l e R s m args below meth c H locs 0 0 Q (F0 m (pc + 3) ls (.int (gi M a 4) :: rest))) : W p l e R s m args below meth c H locs 0 0 Q (F0 m pc ls (.ref a :: rest)) := r_get hX in_MO hWd (by rw [ha]; decide) (enc9 ha) rfl 4 (by decide) hlink rfl rfl hdg kk
theorem p_MO_many (hX : CallFix p m c cc nL s args (qc :: tG) own) (hlink : Cond.fieldLink own idx "NibbleTrieModel" "many" "I" ∈ tG) (hWd : Wd E K G L M H0 H locs s) (ha : K a = 9) {x : Int32} (hdg : decode cc pc = .ok (.putfield idx, 3)) (kk : ∀ (H1 : Heap) (locs1 : List Loc), Wd E K G L (si M a 4 x) H0 H1 locs1 s → W p l e R s m args below meth c H1 locs1 0 0 Q (F0 m (pc + 3) ls rest)) : W p l e R s m args below meth c H locs 0 0 Q (F0 m pc ls (.int x :: .ref a :: rest)) := r_put hX in_MO T_MO T_MO_ok n_MO hWd (by rw [ha]; decide) (enc9 ha) rfl 4 (by decide) hlink rfl rfl (ty := .int) (by decide +kernel) rfl rfl (Nat.le_of_ble_eq_true rfl) (si_up (by rw [enc9 ha]; simp [si])) rfl hdg kk
theorem g_MO_branch (hX : CallFix p m c cc nL s args (qc :: tG) own) (hlink : Cond.fieldLink own idx "NibbleTrieModel" "branch" "[I" ∈ tG) (hWd : Wd E K G L M H0 H locs s) (ha : K a = 9) (hdg : decode cc pc = .ok (.getfield idx, 3)) (kk : W p l e R s m args below meth c H locs 0 0 Q (F0 m (pc + 3) ls (.ref (gr M a 5) :: rest))) : W p l e R s m args below meth c H locs 0 0 Q (F0 m pc ls (.ref a :: rest)) := r_get hX in_MO hWd (by rw [ha]; decide) (enc9 ha) rfl 5 (by decide) hlink rfl rfl hdg kk
theorem v_MO_branch (hWd : Wd E K G L M H0 H locs s) (ha : K a = 9) : K (gr M a 5) = 1 := (hWd.2.2.2.2.1.2.2.2.2.2.2.2 a ha).2.2.2.1
theorem g_MO_digest (hX : CallFix p m c cc nL s args (qc :: tG) own) (hlink : Cond.fieldLink own idx "NibbleTrieModel" "digest" "[J" ∈ tG) (hWd : Wd E K G L M H0 H locs s) (ha : K a = 9) (hdg : decode cc pc = .ok (.getfield idx, 3)) (kk : W p l e R s m args below meth c H locs 0 0 Q (F0 m (pc + 3) ls (.ref (gr M a 6) :: rest))) : W p l e R s m args below meth c H locs 0 0 Q (F0 m pc ls (.ref a :: rest)) := r_get hX in_MO hWd (by rw [ha]; decide) (enc9 ha) rfl 6 (by decide) hlink rfl rfl hdg kk
theorem v_MO_digest (hWd : Wd E K G L M H0 H locs s) (ha : K a = 9) : K (gr M a 6) = 2 := (hWd.2.2.2.2.1.2.2.2.2.2.2.2 a ha).2.2.2.2.1
theorem g_MO_branches (hX : CallFix p m c cc nL s args (qc :: tG) own) (hlink : Cond.fieldLink own idx "NibbleTrieModel" "branches" "[I" ∈ tG) (hWd : Wd E K G L M H0 H locs s) (ha : K a = 9) (hdg : decode cc pc = .ok (.getfield idx, 3)) (kk : W p l e R s m args below meth c H locs 0 0 Q (F0 m (pc + 3) ls (.ref (gr M a 7) :: rest))) : W p l e R s m args below meth c H locs 0 0 Q (F0 m pc ls (.ref a :: rest)) := r_get hX in_MO hWd (by rw [ha]; decide) (enc9 ha) rfl 7 (by decide) hlink rfl rfl hdg kk
theorem v_MO_branches (hWd : Wd E K G L M H0 H locs s) (ha : K a = 9) : K (gr M a 7) = 1 := (hWd.2.2.2.2.1.2.2.2.2.2.2.2 a ha).2.2.2.2.2.1
theorem g_MO_words (hX : CallFix p m c cc nL s args (qc :: tG) own) (hlink : Cond.fieldLink own idx "NibbleTrieModel" "words" "[J" ∈ tG) (hWd : Wd E K G L M H0 H locs s) (ha : K a = 9) (hdg : decode cc pc = .ok (.getfield idx, 3)) (kk : W p l e R s m args below meth c H locs 0 0 Q (F0 m (pc + 3) ls (.ref (gr M a 8) :: rest))) : W p l e R s m args below meth c H locs 0 0 Q (F0 m pc ls (.ref a :: rest)) := r_get hX in_MO hWd (by rw [ha]; decide) (enc9 ha) rfl 8 (by decide) hlink rfl rfl hdg kk
theorem v_MO_words (hWd : Wd E K G L M H0 H locs s) (ha : K a = 9) : K (gr M a 8) = 2 := (hWd.2.2.2.2.1.2.2.2.2.2.2.2 a ha).2.2.2.2.2.2.1
theorem g_MO_length (hX : CallFix p m c cc nL s args (qc :: tG) own) (hlink : Cond.fieldLink own idx "NibbleTrieModel" "length" "I" ∈ tG) (hWd : Wd E K G L M H0 H locs s) (ha : K a = 9) (hdg : decode cc pc = .ok (.getfield idx, 3)) (kk : W p l e R s m args below meth c H locs 0 0 Q (F0 m (pc + 3) ls (.int (gi M a 9) :: rest))) : W p l e R s m args below meth c H locs 0 0 Q (F0 m pc ls (.ref a :: rest)) := r_get hX in_MO hWd (by rw [ha]; decide) (enc9 ha) rfl 9 (by decide) hlink rfl rfl hdg kk
theorem p_MO_length (hX : CallFix p m c cc nL s args (qc :: tG) own) (hlink : Cond.fieldLink own idx "NibbleTrieModel" "length" "I" ∈ tG) (hWd : Wd E K G L M H0 H locs s) (ha : K a = 9) {x : Int32} (hdg : decode cc pc = .ok (.putfield idx, 3)) (kk : ∀ (H1 : Heap) (locs1 : List Loc), Wd E K G L (si M a 9 x) H0 H1 locs1 s → W p l e R s m args below meth c H1 locs1 0 0 Q (F0 m (pc + 3) ls rest)) : W p l e R s m args below meth c H locs 0 0 Q (F0 m pc ls (.int x :: .ref a :: rest)) := r_put hX in_MO T_MO T_MO_ok n_MO hWd (by rw [ha]; decide) (enc9 ha) rfl 9 (by decide) hlink rfl rfl (ty := .int) (by decide +kernel) rfl rfl (Nat.le_of_ble_eq_true rfl) (si_up (by rw [enc9 ha]; simp [si])) rfl hdg kk
theorem g_MO_proof (hX : CallFix p m c cc nL s args (qc :: tG) own) (hlink : Cond.fieldLink own idx "NibbleTrieModel" "proof" "[J" ∈ tG) (hWd : Wd E K G L M H0 H locs s) (ha : K a = 9) (hdg : decode cc pc = .ok (.getfield idx, 3)) (kk : W p l e R s m args below meth c H locs 0 0 Q (F0 m (pc + 3) ls (.ref (gr M a 10) :: rest))) : W p l e R s m args below meth c H locs 0 0 Q (F0 m pc ls (.ref a :: rest)) := r_get hX in_MO hWd (by rw [ha]; decide) (enc9 ha) rfl 10 (by decide) hlink rfl rfl hdg kk
theorem v_MO_proof (hWd : Wd E K G L M H0 H locs s) (ha : K a = 9) : K (gr M a 10) = 2 := (hWd.2.2.2.2.1.2.2.2.2.2.2.2 a ha).2.2.2.2.2.2.2
theorem g_MO_proofLength (hX : CallFix p m c cc nL s args (qc :: tG) own) (hlink : Cond.fieldLink own idx "NibbleTrieModel" "proofLength" "I" ∈ tG) (hWd : Wd E K G L M H0 H locs s) (ha : K a = 9) (hdg : decode cc pc = .ok (.getfield idx, 3)) (kk : W p l e R s m args below meth c H locs 0 0 Q (F0 m (pc + 3) ls (.int (gi M a 11) :: rest))) : W p l e R s m args below meth c H locs 0 0 Q (F0 m pc ls (.ref a :: rest)) := r_get hX in_MO hWd (by rw [ha]; decide) (enc9 ha) rfl 11 (by decide) hlink rfl rfl hdg kk
theorem p_MO_proofLength (hX : CallFix p m c cc nL s args (qc :: tG) own) (hlink : Cond.fieldLink own idx "NibbleTrieModel" "proofLength" "I" ∈ tG) (hWd : Wd E K G L M H0 H locs s) (ha : K a = 9) {x : Int32} (hdg : decode cc pc = .ok (.putfield idx, 3)) (kk : ∀ (H1 : Heap) (locs1 : List Loc), Wd E K G L (si M a 11 x) H0 H1 locs1 s → W p l e R s m args below meth c H1 locs1 0 0 Q (F0 m (pc + 3) ls rest)) : W p l e R s m args below meth c H locs 0 0 Q (F0 m pc ls (.int x :: .ref a :: rest)) := r_put hX in_MO T_MO T_MO_ok n_MO hWd (by rw [ha]; decide) (enc9 ha) rfl 11 (by decide) hlink rfl rfl (ty := .int) (by decide +kernel) rfl rfl (Nat.le_of_ble_eq_true rfl) (si_up (by rw [enc9 ha]; simp [si])) rfl hdg kk
theorem g_MO_at (hX : CallFix p m c cc nL s args (qc :: tG) own) (hlink : Cond.fieldLink own idx "NibbleTrieModel" "at" "I" ∈ tG) (hWd : Wd E K G L M H0 H locs s) (ha : K a = 9) (hdg : decode cc pc = .ok (.getfield idx, 3)) (kk : W p l e R s m args below meth c H locs 0 0 Q (F0 m (pc + 3) ls (.int (gi M a 12) :: rest))) : W p l e R s m args below meth c H locs 0 0 Q (F0 m pc ls (.ref a :: rest)) := r_get hX in_MO hWd (by rw [ha]; decide) (enc9 ha) rfl 12 (by decide) hlink rfl rfl hdg kk
theorem p_MO_at (hX : CallFix p m c cc nL s args (qc :: tG) own) (hlink : Cond.fieldLink own idx "NibbleTrieModel" "at" "I" ∈ tG) (hWd : Wd E K G L M H0 H locs s) (ha : K a = 9) {x : Int32} (hdg : decode cc pc = .ok (.putfield idx, 3)) (kk : ∀ (H1 : Heap) (locs1 : List Loc), Wd E K G L (si M a 12 x) H0 H1 locs1 s → W p l e R s m args below meth c H1 locs1 0 0 Q (F0 m (pc + 3) ls rest)) : W p l e R s m args below meth c H locs 0 0 Q (F0 m pc ls (.int x :: .ref a :: rest)) := r_put hX in_MO T_MO T_MO_ok n_MO hWd (by rw [ha]; decide) (enc9 ha) rfl 12 (by decide) hlink rfl rfl (ty := .int) (by decide +kernel) rfl rfl (Nat.le_of_ble_eq_true rfl) (si_up (by rw [enc9 ha]; simp [si])) rfl hdg kk
theorem g_MO_first (hX : CallFix p m c cc nL s args (qc :: tG) own) (hlink : Cond.fieldLink own idx "NibbleTrieModel" "first" "J" ∈ tG) (hWd : Wd E K G L M H0 H locs s) (ha : K a = 9) (hdg : decode cc pc = .ok (.getfield idx, 3)) (kk : W p l e R s m args below meth c H locs 0 0 Q (F0 m (pc + 3) ls (.long (gl M a 13) :: rest))) : W p l e R s m args below meth c H locs 0 0 Q (F0 m pc ls (.ref a :: rest)) := r_get hX in_MO hWd (by rw [ha]; decide) (enc9 ha) rfl 13 (by decide) hlink rfl rfl hdg kk
theorem p_MO_first (hX : CallFix p m c cc nL s args (qc :: tG) own) (hlink : Cond.fieldLink own idx "NibbleTrieModel" "first" "J" ∈ tG) (hWd : Wd E K G L M H0 H locs s) (ha : K a = 9) {x : Int64} (hdg : decode cc pc = .ok (.putfield idx, 3)) (kk : ∀ (H1 : Heap) (locs1 : List Loc), Wd E K G L (sl M a 13 x) H0 H1 locs1 s → W p l e R s m args below meth c H1 locs1 0 0 Q (F0 m (pc + 3) ls rest)) : W p l e R s m args below meth c H locs 0 0 Q (F0 m pc ls (.long x :: .ref a :: rest)) := r_put hX in_MO T_MO T_MO_ok n_MO hWd (by rw [ha]; decide) (enc9 ha) rfl 13 (by decide) hlink rfl rfl (ty := .long) (by decide +kernel) rfl rfl (Nat.le_of_ble_eq_true rfl) (sl_up (by rw [enc9 ha]; simp [sl])) rfl hdg kk
theorem g_MO_second (hX : CallFix p m c cc nL s args (qc :: tG) own) (hlink : Cond.fieldLink own idx "NibbleTrieModel" "second" "J" ∈ tG) (hWd : Wd E K G L M H0 H locs s) (ha : K a = 9) (hdg : decode cc pc = .ok (.getfield idx, 3)) (kk : W p l e R s m args below meth c H locs 0 0 Q (F0 m (pc + 3) ls (.long (gl M a 14) :: rest))) : W p l e R s m args below meth c H locs 0 0 Q (F0 m pc ls (.ref a :: rest)) := r_get hX in_MO hWd (by rw [ha]; decide) (enc9 ha) rfl 14 (by decide) hlink rfl rfl hdg kk
theorem p_MO_second (hX : CallFix p m c cc nL s args (qc :: tG) own) (hlink : Cond.fieldLink own idx "NibbleTrieModel" "second" "J" ∈ tG) (hWd : Wd E K G L M H0 H locs s) (ha : K a = 9) {x : Int64} (hdg : decode cc pc = .ok (.putfield idx, 3)) (kk : ∀ (H1 : Heap) (locs1 : List Loc), Wd E K G L (sl M a 14 x) H0 H1 locs1 s → W p l e R s m args below meth c H1 locs1 0 0 Q (F0 m (pc + 3) ls rest)) : W p l e R s m args below meth c H locs 0 0 Q (F0 m pc ls (.long x :: .ref a :: rest)) := r_put hX in_MO T_MO T_MO_ok n_MO hWd (by rw [ha]; decide) (enc9 ha) rfl 14 (by decide) hlink rfl rfl (ty := .long) (by decide +kernel) rfl rfl (Nat.le_of_ble_eq_true rfl) (sl_up (by rw [enc9 ha]; simp [sl])) rfl hdg kk
theorem g_MO_count (hX : CallFix p m c cc nL s args (qc :: tG) own) (hlink : Cond.fieldLink own idx "NibbleTrieModel" "count" "I" ∈ tG) (hWd : Wd E K G L M H0 H locs s) (ha : K a = 9) (hdg : decode cc pc = .ok (.getfield idx, 3)) (kk : W p l e R s m args below meth c H locs 0 0 Q (F0 m (pc + 3) ls (.int (gi M a 15) :: rest))) : W p l e R s m args below meth c H locs 0 0 Q (F0 m pc ls (.ref a :: rest)) := r_get hX in_MO hWd (by rw [ha]; decide) (enc9 ha) rfl 15 (by decide) hlink rfl rfl hdg kk
theorem p_MO_count (hX : CallFix p m c cc nL s args (qc :: tG) own) (hlink : Cond.fieldLink own idx "NibbleTrieModel" "count" "I" ∈ tG) (hWd : Wd E K G L M H0 H locs s) (ha : K a = 9) {x : Int32} (hdg : decode cc pc = .ok (.putfield idx, 3)) (kk : ∀ (H1 : Heap) (locs1 : List Loc), Wd E K G L (si M a 15 x) H0 H1 locs1 s → W p l e R s m args below meth c H1 locs1 0 0 Q (F0 m (pc + 3) ls rest)) : W p l e R s m args below meth c H locs 0 0 Q (F0 m pc ls (.int x :: .ref a :: rest)) := r_put hX in_MO T_MO T_MO_ok n_MO hWd (by rw [ha]; decide) (enc9 ha) rfl 15 (by decide) hlink rfl rfl (ty := .int) (by decide +kernel) rfl rfl (Nat.le_of_ble_eq_true rfl) (si_up (by rw [enc9 ha]; simp [si])) rfl hdg kk
theorem g_MO_path (hX : CallFix p m c cc nL s args (qc :: tG) own) (hlink : Cond.fieldLink own idx "NibbleTrieModel" "path" "I" ∈ tG) (hWd : Wd E K G L M H0 H locs s) (ha : K a = 9) (hdg : decode cc pc = .ok (.getfield idx, 3)) (kk : W p l e R s m args below meth c H locs 0 0 Q (F0 m (pc + 3) ls (.int (gi M a 16) :: rest))) : W p l e R s m args below meth c H locs 0 0 Q (F0 m pc ls (.ref a :: rest)) := r_get hX in_MO hWd (by rw [ha]; decide) (enc9 ha) rfl 16 (by decide) hlink rfl rfl hdg kk
theorem p_MO_path (hX : CallFix p m c cc nL s args (qc :: tG) own) (hlink : Cond.fieldLink own idx "NibbleTrieModel" "path" "I" ∈ tG) (hWd : Wd E K G L M H0 H locs s) (ha : K a = 9) {x : Int32} (hdg : decode cc pc = .ok (.putfield idx, 3)) (kk : ∀ (H1 : Heap) (locs1 : List Loc), Wd E K G L (si M a 16 x) H0 H1 locs1 s → W p l e R s m args below meth c H1 locs1 0 0 Q (F0 m (pc + 3) ls rest)) : W p l e R s m args below meth c H locs 0 0 Q (F0 m pc ls (.int x :: .ref a :: rest)) := r_put hX in_MO T_MO T_MO_ok n_MO hWd (by rw [ha]; decide) (enc9 ha) rfl 16 (by decide) hlink rfl rfl (ty := .int) (by decide +kernel) rfl rfl (Nat.le_of_ble_eq_true rfl) (si_up (by rw [enc9 ha]; simp [si])) rfl hdg kk
theorem v_tel (hWd : Wd E K G L M H0 H locs s) (ha : K a = 3) {i : Int32} {j : Nat} (hj : ix i (G a) = some j) : K (gr M a j) = 6 := by
  obtain ⟨h1, rfl⟩ := ixE hj
  exact hWd.2.2.2.2.1.2.1 a ha _ (Nat.not_le.mp fun q => h1 (Or.inr q))
theorem v_gel (hWd : Wd E K G L M H0 H locs s) (ha : K a = 4) {i : Int32} {j : Nat} (hj : ix i (G a) = some j) : K (gr M a j) = 2 := by
  obtain ⟨h1, rfl⟩ := ixE hj
  exact hWd.2.2.2.2.1.2.2.1 a ha _ (Nat.not_le.mp fun q => h1 (Or.inr q))
end ROW
end
section
/-! Rows for calls and ends: methods over the pool (Q.. of a world), methods that touch no cell (P..). -/
def QI (E : En) (K G : Nat → Nat) (L : List Nat) (sz : Nat) (v : Int32) (M : Mm) : Array Value → State → Outcome → State → Prop := va_Qi (fun r (_ : Unit) => r = v) (fun _ t => Wt E K G L M (AL L sz) t) (AL L sz)
def QZ (E : En) (K G : Nat → Nat) (L : List Nat) (sz : Nat) (v : Int32) (M : Mm) : Array Value → State → Outcome → State → Prop := va_Qi (fun r (_ : Unit) => r = v ∧ (v = 0 ∨ v = 1)) (fun _ t => Wt E K G L M (AL L sz) t) (AL L sz)
def QL (E : En) (K G : Nat → Nat) (L : List Nat) (sz : Nat) (v : Int64) (M : Mm) : Array Value → State → Outcome → State → Prop := va_Ql (fun r (_ : Unit) => r = v) (fun _ t => Wt E K G L M (AL L sz) t) (AL L sz)
def QV (E : En) (K G : Nat → Nat) (L : List Nat) (sz : Nat) (M : Mm) : Array Value → State → Outcome → State → Prop := va_Qv (fun (_ : Unit) => True) (fun _ t => Wt E K G L M (AL L sz) t) (AL L sz)
def PI (v : Int32) : Array Value → State → Outcome → State → Prop := fun _ st oc t => oc = .returned (some (.int v)) ∧ t.heap = st.heap
def PZ (v : Int32) : Array Value → State → Outcome → State → Prop := fun _ st oc t => (oc = .returned (some (.int v)) ∧ t.heap = st.heap) ∧ (v = 0 ∨ v = 1)
def PL (v : Int64) : Array Value → State → Outcome → State → Prop := fun _ st oc t => oc = .returned (some (.long v)) ∧ t.heap = st.heap
section CALL
variable {p : Program} {l : Launch} {e : Env} {R : Room} {s : State} {m : MethodId} {args : Array Value} {below : List Frame} {meth : Method} {c : Code} {H : Heap} {locs : List Loc} {Q : State → Prop} {cc : ByteArray} {pc nL : Nat} {ls : Array Slot} {rest st0 : List Value} {E : En} {K G : Nat → Nat} {L : List Nat} {M M2 : Mm} {own : String} {qc : Cond} {av : Array Value}
theorem back_wd {t : State} {H1 : Heap} {locs1 : List Loc} (hWd : Wd E K G L M s.heap H locs s) (ht : t.heap = H1) (hB : Wt E K G L M2 (AL L H.size) t) (hS : va_S (AL L s.heap.size) s.heap H1 locs1) : Wd E K G L M2 s.heap H1 locs1 s :=
  ⟨by rw [← ht]; exact hB.1, pl_at hB.2.2.1 (fun _ h => Or.inl h), hS, hWd.2.2.2.1, hB.2.2.2, hWd.2.2.2.2.2⟩
theorem kc_i {v : Int32} (hr : va_Run p l e R s m args below meth c H locs 0 0 0 0 (F0 m pc ls st0) rest (QI E K G L H.size v M2 av) (AL L H.size)) (hWd : Wd E K G L M s.heap H locs s)
    (kk : ∀ (H1 : Heap) (locs1 : List Loc), Wd E K G L M2 s.heap H1 locs1 s → W p l e R s m args below meth c H1 locs1 0 0 Q (F0 m (pc + 3) ls (.int v :: rest))) : W p l e R s m args below meth c H locs 0 0 Q (F0 m pc ls st0) := by
  refine va_calli (A1 := AL L H.size) hr hWd.2.2.1 (fun q _ h => al_le hWd.2.2.1 h) (fun q h => al_le hWd.2.2.1 h) (fun r u t H1 locs1 ht _ hp hB _ _ hS => ?_)
  subst hp
  exact kk H1 locs1 (back_wd hWd ht hB hS)
theorem kc_z {v : Int32} (hr : va_Run p l e R s m args below meth c H locs 0 0 0 0 (F0 m pc ls st0) rest (QZ E K G L H.size v M2 av) (AL L H.size)) (hWd : Wd E K G L M s.heap H locs s)
    (kk : (v = 0 ∨ v = 1) → ∀ (H1 : Heap) (locs1 : List Loc), Wd E K G L M2 s.heap H1 locs1 s → W p l e R s m args below meth c H1 locs1 0 0 Q (F0 m (pc + 3) ls (.int v :: rest))) : W p l e R s m args below meth c H locs 0 0 Q (F0 m pc ls st0) := by
  refine va_calli (A1 := AL L H.size) hr hWd.2.2.1 (fun q _ h => al_le hWd.2.2.1 h) (fun q h => al_le hWd.2.2.1 h) (fun r u t H1 locs1 ht _ hp hB _ _ hS => ?_)
  obtain ⟨hp, hz⟩ := hp
  subst hp
  exact kk hz H1 locs1 (back_wd hWd ht hB hS)
theorem kc_l {v : Int64} (hr : va_Run p l e R s m args below meth c H locs 0 0 0 0 (F0 m pc ls st0) rest (QL E K G L H.size v M2 av) (AL L H.size)) (hWd : Wd E K G L M s.heap H locs s)
    (kk : ∀ (H1 : Heap) (locs1 : List Loc), Wd E K G L M2 s.heap H1 locs1 s → W p l e R s m args below meth c H1 locs1 0 0 Q (F0 m (pc + 3) ls (.long v :: rest))) : W p l e R s m args below meth c H locs 0 0 Q (F0 m pc ls st0) := by
  refine va_calll (A1 := AL L H.size) hr hWd.2.2.1 (fun q _ h => al_le hWd.2.2.1 h) (fun q h => al_le hWd.2.2.1 h) (fun r u t H1 locs1 ht _ hp hB _ _ hS => ?_)
  subst hp
  exact kk H1 locs1 (back_wd hWd ht hB hS)
theorem kc_v (hr : va_Run p l e R s m args below meth c H locs 0 0 0 0 (F0 m pc ls st0) rest (QV E K G L H.size M2 av) (AL L H.size)) (hWd : Wd E K G L M s.heap H locs s)
    (kk : ∀ (H1 : Heap) (locs1 : List Loc), Wd E K G L M2 s.heap H1 locs1 s → W p l e R s m args below meth c H1 locs1 0 0 Q (F0 m (pc + 3) ls rest)) : W p l e R s m args below meth c H locs 0 0 Q (F0 m pc ls st0) := by
  refine va_callv (A1 := AL L H.size) hr hWd.2.2.1 (fun q _ h => al_le hWd.2.2.1 h) (fun q h => al_le hWd.2.2.1 h) (fun u t H1 locs1 ht _ _ hB _ _ hS => ?_)
  exact kk H1 locs1 (back_wd hWd ht hB hS)
theorem kp_i {v : Int32} (hr : va_Run p l e R s m args below meth c H locs 0 0 0 0 (F0 m pc ls st0) rest (PI v av) (fun _ => False))
    (kk : W p l e R s m args below meth c H locs 0 0 Q (F0 m (pc + 3) ls (.int v :: rest))) : W p l e R s m args below meth c H locs 0 0 Q (F0 m pc ls st0) := by
  intro T hT X
  obtain ⟨v, st₀, t, T', L, h0, X', hL, e1, -, ⟨hv, hh⟩, st⟩ := hr T hT X
  cases hv
  obtain ⟨t2, a1, b1⟩ := kk T' (by rw [e1, hh, h0]) (Stand.forget X' (fun q h => (hL q h).elim))
  exact ⟨t2, st t2 a1, b1⟩
theorem kp_z {v : Int32} (hr : va_Run p l e R s m args below meth c H locs 0 0 0 0 (F0 m pc ls st0) rest (PZ v av) (fun _ => False))
    (kk : (v = 0 ∨ v = 1) → W p l e R s m args below meth c H locs 0 0 Q (F0 m (pc + 3) ls (.int v :: rest))) : W p l e R s m args below meth c H locs 0 0 Q (F0 m pc ls st0) := by
  intro T hT X
  obtain ⟨v, st₀, t, T', L, h0, X', hL, e1, -, ⟨⟨hv, hh⟩, hz⟩, st⟩ := hr T hT X
  cases hv
  obtain ⟨t2, a1, b1⟩ := kk hz T' (by rw [e1, hh, h0]) (Stand.forget X' (fun q h => (hL q h).elim))
  exact ⟨t2, st t2 a1, b1⟩
theorem kp_l {v : Int64} (hr : va_Run p l e R s m args below meth c H locs 0 0 0 0 (F0 m pc ls st0) rest (PL v av) (fun _ => False))
    (kk : W p l e R s m args below meth c H locs 0 0 Q (F0 m (pc + 3) ls (.long v :: rest))) : W p l e R s m args below meth c H locs 0 0 Q (F0 m pc ls st0) := by
  intro T hT X
  obtain ⟨v, st₀, t, T', L, h0, X', hL, e1, -, ⟨hv, hh⟩, st⟩ := hr T hT X
  cases hv
  obtain ⟨t2, a1, b1⟩ := kk T' (by rw [e1, hh, h0]) (Stand.forget X' (fun q h => (hL q h).elim))
  exact ⟨t2, st t2 a1, b1⟩
theorem recvV {k : Nat} {C : String} {b ci : Nat} {q : vw_C} {fs : List Value} (hWd : Wd E K G L M s.heap H locs s) (h0 : K b ≠ 0) (he : enc E K G M b = .inr (ci, fs)) (hc : classes[ci]? = some q) (hC : q.1 = C) {As : List Value} : PreV s H C b (va_Pc (.ref b :: As) (Wp E K G L M H.size)) As := by
  obtain ⟨k, hk⟩ := pool hWd h0
  rw [he] at hk
  subst hC
  exact ⟨Wd.blind, va_recv hWd.2.2.2.1 hWd.1 hc hk, fun _ hU hW => ⟨rfl, hWd.pre hU hW⟩⟩
theorem pv_NT {b : Nat} (hWd : Wd E K G L M s.heap H locs s) (hb : K b = 5) {As : List Value} : PreV s H R_NT b (va_Pc (.ref b :: As) (Wp E K G L M H.size)) As := recvV (k := 0) hWd (by rw [hb]; decide) (enc5 hb) rfl rfl
theorem pv_TR {b : Nat} (hWd : Wd E K G L M s.heap H locs s) (hb : K b = 6) {As : List Value} : PreV s H R_TR b (va_Pc (.ref b :: As) (Wp E K G L M H.size)) As := recvV (k := 0) hWd (by rw [hb]; decide) (enc6 hb) rfl rfl
theorem pv_PM {b : Nat} (hWd : Wd E K G L M s.heap H locs s) (hb : K b = 7) {As : List Value} : PreV s H R_PM b (va_Pc (.ref b :: As) (Wp E K G L M H.size)) As := recvV (k := 0) hWd (by rw [hb]; decide) (enc7 hb) rfl rfl
theorem pv_PF {b : Nat} (hWd : Wd E K G L M s.heap H locs s) (hb : K b = 8) {As : List Value} : PreV s H R_PF b (va_Pc (.ref b :: As) (Wp E K G L M H.size)) As := recvV (k := 0) hWd (by rw [hb]; decide) (enc8 hb) rfl rfl
theorem pv_MO {b : Nat} (hWd : Wd E K G L M s.heap H locs s) (hb : K b = 9) {As : List Value} : PreV s H R_MO b (va_Pc (.ref b :: As) (Wp E K G L M H.size)) As := recvV (k := 0) hWd (by rw [hb]; decide) (enc9 hb) rfl rfl
theorem Wd.wt {t : State} (hWd : Wd E K G L M s.heap H locs s) (ht : t.heap = H) (hW : s.WarmedH t.vm) : Wt E K G L M (AL L s.heap.size) t := ⟨by rw [ht]; exact hWd.1, va_K.moved hW.alike hWd.2.2.2.1, hWd.2.1, hWd.2.2.2.2.1⟩
theorem e_iret {v : Int32} (hX : CallFix p m c cc nL s args (qc :: tG) own) (hr : meth.sig.returnType = some .int) (hlk : meth.locks = false) (hWd : Wd E K G L M s.heap H locs s) (hdg : decode cc pc = .ok (.ireturn, 1)) : W p l e R s m args below meth c H locs 0 0 (MQ below (QI E K G L s.heap.size v M) args s 0 0 (AL L s.heap.size)) (F0 m pc ls [.int v]) :=
  W.iret hX.1 hX.2.1 hr (fun t ht hW => ⟨⟨v, (), rfl, rfl, hWd.wt ht hW⟩, hWd.2.2.1.F ht⟩) hWd.2.2.1.2.2 hdg hlk
theorem e_zret {v : Int32} (hX : CallFix p m c cc nL s args (qc :: tG) own) (hr : meth.sig.returnType = some .boolean) (hlk : meth.locks = false) (hWd : Wd E K G L M s.heap H locs s) (hz : v = 0 ∨ v = 1) (hdg : decode cc pc = .ok (.ireturn, 1)) : W p l e R s m args below meth c H locs 0 0 (MQ below (QZ E K G L s.heap.size v M) args s 0 0 (AL L s.heap.size)) (F0 m pc ls [.int v]) :=
  W.zret hX.1 hX.2.1 hr (by rcases hz with rfl | rfl <;> rfl) (fun t ht hW => ⟨⟨v, (), rfl, ⟨rfl, hz⟩, hWd.wt ht hW⟩, hWd.2.2.1.F ht⟩) hWd.2.2.1.2.2 hdg hlk
theorem e_lret {v : Int64} (hX : CallFix p m c cc nL s args (qc :: tG) own) (hr : meth.sig.returnType = some .long) (hlk : meth.locks = false) (hWd : Wd E K G L M s.heap H locs s) (hdg : decode cc pc = .ok (.lreturn, 1)) : W p l e R s m args below meth c H locs 0 0 (MQ below (QL E K G L s.heap.size v M) args s 0 0 (AL L s.heap.size)) (F0 m pc ls [.long v]) :=
  W.lret hX.1 hX.2.1 hr (fun t ht hW => ⟨⟨v, (), rfl, rfl, hWd.wt ht hW⟩, hWd.2.2.1.F ht⟩) hWd.2.2.1.2.2 hdg hlk
theorem e_vret (hX : CallFix p m c cc nL s args (qc :: tG) own) (hr : meth.sig.returnType = none) (hlk : meth.locks = false) (hWd : Wd E K G L M s.heap H locs s) (hdg : decode cc pc = .ok (.return_, 1)) : W p l e R s m args below meth c H locs 0 0 (MQ below (QV E K G L s.heap.size M) args s 0 0 (AL L s.heap.size)) (F0 m pc ls []) :=
  W.vret hX.1 hX.2.1 hr (fun t ht hW => ⟨⟨(), rfl, trivial, hWd.wt ht hW⟩, hWd.2.2.1.F ht⟩) hWd.2.2.1.2.2 hdg hlk
theorem p_iret {v : Int32} (hX : CallFix p m c cc nL s args (qc :: tG) own) (hr : meth.sig.returnType = some .int) (hlk : meth.locks = false) (hdg : decode cc pc = .ok (.ireturn, 1)) : W p l e R s m args below meth c s.heap [] 0 0 (MQ below (PI v) args s 0 0 (fun _ => False)) (F0 m pc ls [.int v]) :=
  W.iret hX.1 hX.2.1 hr (fun t ht _ => ⟨rfl, ht⟩) (fun q h => absurd h List.not_mem_nil) hdg hlk
theorem p_zret {v : Int32} (hX : CallFix p m c cc nL s args (qc :: tG) own) (hr : meth.sig.returnType = some .boolean) (hlk : meth.locks = false) (hz : v = 0 ∨ v = 1) (hdg : decode cc pc = .ok (.ireturn, 1)) : W p l e R s m args below meth c s.heap [] 0 0 (MQ below (PZ v) args s 0 0 (fun _ => False)) (F0 m pc ls [.int v]) :=
  W.zret hX.1 hX.2.1 hr (by rcases hz with rfl | rfl <;> rfl) (fun t ht _ => ⟨⟨rfl, ht⟩, hz⟩) (fun q h => absurd h List.not_mem_nil) hdg hlk
theorem p_lret {v : Int64} (hX : CallFix p m c cc nL s args (qc :: tG) own) (hr : meth.sig.returnType = some .long) (hlk : meth.locks = false) (hdg : decode cc pc = .ok (.lreturn, 1)) : W p l e R s m args below meth c s.heap [] 0 0 (MQ below (PL v) args s 0 0 (fun _ => False)) (F0 m pc ls [.long v]) :=
  W.lret hX.1 hX.2.1 hr (fun t ht _ => ⟨rfl, ht⟩) (fun q h => absurd h List.not_mem_nil) hdg hlk
theorem tbIn {dflt lo hi : Int} {offs : Array Int} {len : Nat} {x k : Int32} {off : Int} {tgt : Nat} {cells slots : Nat} (hexec : p.tables.exec = Jvm.exec) (hb : c.code = cc) (hdg : decode cc pc = .ok (.tableswitch dflt lo hi offs, len)) (hk : x = k) (h1 : ¬ k.toInt < lo) (h2 : ¬ hi < k.toInt) (ho : offs[(k.toInt - lo).toNat]? = some off) (ht : (pc : Int) + off = (tgt : Int))
    (kk : W p l e R s m args below meth c H locs cells slots Q (F0 m tgt ls rest)) : W p l e R s m args below meth c H locs cells slots Q (F0 m pc ls (.int x :: rest)) := by
  subst hk
  exact lv_tableIn hexec hb hdg h1 h2 ho ht kk
end CALL
theorem tbOut3 {x : Int32} (h0 : ¬ x = 0) (h1 : ¬ x = 1) (h2 : ¬ x = 2) : x.toInt < 0 ∨ 2 < x.toInt := by
  have a0 := lv_neT (a := 0) h0 (by decide)
  have a1 := lv_neT (a := 1) h1 (by decide)
  have a2 := lv_neT (a := 2) h2 (by decide)
  omega
end
