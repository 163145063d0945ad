section
-- ===== PART A: goes FIRST, ahead of the names: the tables' words, and 'selects' of the private methods out of them =====
/-- a private method of a class that the tables say can be made, by its rows of tables_1 -/
def lw_okq (q : MethodName × Nat) : Prop := (q.1.cls ≠ "java/lang/invoke/MethodHandle" ∧ q.1.cls ≠ "java/lang/invoke/VarHandle") ∧ Cond.instantiable q.1.cls q.2 ∈ tables_1 ∧ Cond.privateMethod q.1 ∈ tables_1 ∧ Cond.instanceMethod q.1 ∈ tables_1
theorem lw_p0 : lw_okq (⟨"NibbleTrie$Trie", "list", "()V"⟩, 10) := ⟨⟨by decide +kernel, by decide +kernel⟩, List.mem_of_getElem? (i := 18) (by decide +kernel), List.mem_of_getElem? (i := 171) (by decide +kernel), List.mem_of_getElem? (i := 172) (by decide +kernel)⟩
theorem lw_p1 : lw_okq (⟨"NibbleTrie$Trie", "listPart", "(IIII)V"⟩, 10) := ⟨⟨by decide +kernel, by decide +kernel⟩, List.mem_of_getElem? (i := 18) (by decide +kernel), List.mem_of_getElem? (i := 175) (by decide +kernel), List.mem_of_getElem? (i := 176) (by decide +kernel)⟩
theorem lw_p2 : lw_okq (⟨"NibbleTrie$Trie", "listBranch", "(IIII)V"⟩, 10) := ⟨⟨by decide +kernel, by decide +kernel⟩, List.mem_of_getElem? (i := 18) (by decide +kernel), List.mem_of_getElem? (i := 186) (by decide +kernel), List.mem_of_getElem? (i := 187) (by decide +kernel)⟩
theorem lw_p3 : lw_okq (⟨"NibbleTrie$Trie", "firstChildRow", "(II)I"⟩, 10) := ⟨⟨by decide +kernel, by decide +kernel⟩, List.mem_of_getElem? (i := 18) (by decide +kernel), List.mem_of_getElem? (i := 190) (by decide +kernel), List.mem_of_getElem? (i := 191) (by decide +kernel)⟩
theorem lw_p4 : lw_okq (⟨"NibbleTrie$Trie", "writeReference", "(III[JI)I"⟩, 10) := ⟨⟨by decide +kernel, by decide +kernel⟩, List.mem_of_getElem? (i := 18) (by decide +kernel), List.mem_of_getElem? (i := 229) (by decide +kernel), List.mem_of_getElem? (i := 230) (by decide +kernel)⟩
theorem lw_p5 : lw_okq (⟨"NibbleTrie$Trie", "branchDigest", "(III)J"⟩, 10) := ⟨⟨by decide +kernel, by decide +kernel⟩, List.mem_of_getElem? (i := 18) (by decide +kernel), List.mem_of_getElem? (i := 237) (by decide +kernel), List.mem_of_getElem? (i := 238) (by decide +kernel)⟩
theorem lw_p6 : lw_okq (⟨"NibbleTrie$Trie", "writeBranch", "(III[JI)I"⟩, 10) := ⟨⟨by decide +kernel, by decide +kernel⟩, List.mem_of_getElem? (i := 18) (by decide +kernel), List.mem_of_getElem? (i := 241) (by decide +kernel), List.mem_of_getElem? (i := 242) (by decide +kernel)⟩
theorem lw_p7 : lw_okq (⟨"NibbleTrie", "branchesToWrite", "()I"⟩, 4) := ⟨⟨by decide +kernel, by decide +kernel⟩, List.mem_of_getElem? (i := 10) (by decide +kernel), List.mem_of_getElem? (i := 260) (by decide +kernel), List.mem_of_getElem? (i := 261) (by decide +kernel)⟩
theorem lw_p8 : lw_okq (⟨"NibbleTrie$Trie", "isSame", "(ILNibbleTrie$Trie;I)Z"⟩, 10) := ⟨⟨by decide +kernel, by decide +kernel⟩, List.mem_of_getElem? (i := 18) (by decide +kernel), List.mem_of_getElem? (i := 268) (by decide +kernel), List.mem_of_getElem? (i := 269) (by decide +kernel)⟩
theorem lw_p9 : lw_okq (⟨"NibbleTrie", "isAmongVersions", "(ILNibbleTrie$Trie;I)Z"⟩, 4) := ⟨⟨by decide +kernel, by decide +kernel⟩, List.mem_of_getElem? (i := 10) (by decide +kernel), List.mem_of_getElem? (i := 272) (by decide +kernel), List.mem_of_getElem? (i := 273) (by decide +kernel)⟩
theorem lw_p10 : lw_okq (⟨"NibbleTrie", "goDown", "()V"⟩, 4) := ⟨⟨by decide +kernel, by decide +kernel⟩, List.mem_of_getElem? (i := 10) (by decide +kernel), List.mem_of_getElem? (i := 276) (by decide +kernel), List.mem_of_getElem? (i := 277) (by decide +kernel)⟩
theorem lw_p11 : lw_okq (⟨"NibbleTrie", "keepWorking", "()V"⟩, 4) := ⟨⟨by decide +kernel, by decide +kernel⟩, List.mem_of_getElem? (i := 10) (by decide +kernel), List.mem_of_getElem? (i := 292) (by decide +kernel), List.mem_of_getElem? (i := 293) (by decide +kernel)⟩
theorem lw_p12 : lw_okq (⟨"NibbleTrie", "isKept", "(I)Z"⟩, 4) := ⟨⟨by decide +kernel, by decide +kernel⟩, List.mem_of_getElem? (i := 10) (by decide +kernel), List.mem_of_getElem? (i := 308) (by decide +kernel), List.mem_of_getElem? (i := 309) (by decide +kernel)⟩
theorem lw_p13 : lw_okq (⟨"NibbleTrie", "isFirstOfItsKind", "(II)Z"⟩, 4) := ⟨⟨by decide +kernel, by decide +kernel⟩, List.mem_of_getElem? (i := 10) (by decide +kernel), List.mem_of_getElem? (i := 320) (by decide +kernel), List.mem_of_getElem? (i := 321) (by decide +kernel)⟩
theorem lw_p14 : lw_okq (⟨"NibbleTrie", "isUse", "(II)Z"⟩, 4) := ⟨⟨by decide +kernel, by decide +kernel⟩, List.mem_of_getElem? (i := 10) (by decide +kernel), List.mem_of_getElem? (i := 328) (by decide +kernel), List.mem_of_getElem? (i := 329) (by decide +kernel)⟩
theorem lw_p15 : lw_okq (⟨"NibbleTrie$Trie", "pathTo", "(I)I"⟩, 10) := ⟨⟨by decide +kernel, by decide +kernel⟩, List.mem_of_getElem? (i := 18) (by decide +kernel), List.mem_of_getElem? (i := 344) (by decide +kernel), List.mem_of_getElem? (i := 345) (by decide +kernel)⟩
def lw_privs_1 : List (MethodName × Nat) := [(⟨"NibbleTrie$Trie", "list", "()V"⟩, 10), (⟨"NibbleTrie$Trie", "listPart", "(IIII)V"⟩, 10), (⟨"NibbleTrie$Trie", "listBranch", "(IIII)V"⟩, 10), (⟨"NibbleTrie$Trie", "firstChildRow", "(II)I"⟩, 10), (⟨"NibbleTrie$Trie", "writeReference", "(III[JI)I"⟩, 10), (⟨"NibbleTrie$Trie", "branchDigest", "(III)J"⟩, 10), (⟨"NibbleTrie$Trie", "writeBranch", "(III[JI)I"⟩, 10), (⟨"NibbleTrie", "branchesToWrite", "()I"⟩, 4), (⟨"NibbleTrie$Trie", "isSame", "(ILNibbleTrie$Trie;I)Z"⟩, 10), (⟨"NibbleTrie", "isAmongVersions", "(ILNibbleTrie$Trie;I)Z"⟩, 4), (⟨"NibbleTrie", "goDown", "()V"⟩, 4), (⟨"NibbleTrie", "keepWorking", "()V"⟩, 4), (⟨"NibbleTrie", "isKept", "(I)Z"⟩, 4), (⟨"NibbleTrie", "isFirstOfItsKind", "(II)Z"⟩, 4), (⟨"NibbleTrie", "isUse", "(II)Z"⟩, 4), (⟨"NibbleTrie$Trie", "pathTo", "(I)I"⟩, 10)]
theorem lw_r1 : ∀ q ∈ lw_privs_1, lw_okq q := List.forall_mem_cons.mpr ⟨lw_p0, List.forall_mem_cons.mpr ⟨lw_p1, List.forall_mem_cons.mpr ⟨lw_p2, List.forall_mem_cons.mpr ⟨lw_p3, List.forall_mem_cons.mpr ⟨lw_p4, List.forall_mem_cons.mpr ⟨lw_p5, List.forall_mem_cons.mpr ⟨lw_p6, List.forall_mem_cons.mpr ⟨lw_p7, List.forall_mem_cons.mpr ⟨lw_p8, List.forall_mem_cons.mpr ⟨lw_p9, List.forall_mem_cons.mpr ⟨lw_p10, List.forall_mem_cons.mpr ⟨lw_p11, List.forall_mem_cons.mpr ⟨lw_p12, List.forall_mem_cons.mpr ⟨lw_p13, List.forall_mem_cons.mpr ⟨lw_p14, List.forall_mem_cons.mpr ⟨lw_p15, fun _ h => absurd h List.not_mem_nil⟩⟩⟩⟩⟩⟩⟩⟩⟩⟩⟩⟩⟩⟩⟩⟩
theorem lw_p16 : lw_okq (⟨"NibbleTrie$Proof", "takeTopReference", "(J)V"⟩, 8) := ⟨⟨by decide +kernel, by decide +kernel⟩, List.mem_of_getElem? (i := 84) (by decide +kernel), List.mem_of_getElem? (i := 376) (by decide +kernel), List.mem_of_getElem? (i := 377) (by decide +kernel)⟩
theorem lw_p17 : lw_okq (⟨"NibbleTrie$Proof", "hasReference", "(I)Z"⟩, 8) := ⟨⟨by decide +kernel, by decide +kernel⟩, List.mem_of_getElem? (i := 84) (by decide +kernel), List.mem_of_getElem? (i := 380) (by decide +kernel), List.mem_of_getElem? (i := 381) (by decide +kernel)⟩
theorem lw_p18 : lw_okq (⟨"NibbleTrie$Proof", "end", "(J)V"⟩, 8) := ⟨⟨by decide +kernel, by decide +kernel⟩, List.mem_of_getElem? (i := 84) (by decide +kernel), List.mem_of_getElem? (i := 387) (by decide +kernel), List.mem_of_getElem? (i := 388) (by decide +kernel)⟩
theorem lw_p19 : lw_okq (⟨"NibbleTrie$Proof", "followDigest", "(J)V"⟩, 8) := ⟨⟨by decide +kernel, by decide +kernel⟩, List.mem_of_getElem? (i := 84) (by decide +kernel), List.mem_of_getElem? (i := 391) (by decide +kernel), List.mem_of_getElem? (i := 392) (by decide +kernel)⟩
theorem lw_p20 : lw_okq (⟨"NibbleTrie$Proof", "followPair", "(JJ)V"⟩, 8) := ⟨⟨by decide +kernel, by decide +kernel⟩, List.mem_of_getElem? (i := 84) (by decide +kernel), List.mem_of_getElem? (i := 397) (by decide +kernel), List.mem_of_getElem? (i := 398) (by decide +kernel)⟩
theorem lw_p21 : lw_okq (⟨"NibbleTrieModel", "find", "(II)I"⟩, 17) := ⟨⟨by decide +kernel, by decide +kernel⟩, List.mem_of_getElem? (i := 407) (by decide +kernel), List.mem_of_getElem? (i := 474) (by decide +kernel), List.mem_of_getElem? (i := 475) (by decide +kernel)⟩
theorem lw_p22 : lw_okq (⟨"NibbleTrieModel", "valueIn", "(II)I"⟩, 17) := ⟨⟨by decide +kernel, by decide +kernel⟩, List.mem_of_getElem? (i := 407) (by decide +kernel), List.mem_of_getElem? (i := 482) (by decide +kernel), List.mem_of_getElem? (i := 483) (by decide +kernel)⟩
theorem lw_p23 : lw_okq (⟨"NibbleTrieModel", "build", "(I)V"⟩, 17) := ⟨⟨by decide +kernel, by decide +kernel⟩, List.mem_of_getElem? (i := 407) (by decide +kernel), List.mem_of_getElem? (i := 494) (by decide +kernel), List.mem_of_getElem? (i := 495) (by decide +kernel)⟩
theorem lw_p24 : lw_okq (⟨"NibbleTrieModel", "place", "(II)I"⟩, 17) := ⟨⟨by decide +kernel, by decide +kernel⟩, List.mem_of_getElem? (i := 407) (by decide +kernel), List.mem_of_getElem? (i := 498) (by decide +kernel), List.mem_of_getElem? (i := 499) (by decide +kernel)⟩
theorem lw_p25 : lw_okq (⟨"NibbleTrieModel", "isBranch", "(II)Z"⟩, 17) := ⟨⟨by decide +kernel, by decide +kernel⟩, List.mem_of_getElem? (i := 407) (by decide +kernel), List.mem_of_getElem? (i := 502) (by decide +kernel), List.mem_of_getElem? (i := 503) (by decide +kernel)⟩
theorem lw_p26 : lw_okq (⟨"NibbleTrieModel", "members", "(II)I"⟩, 17) := ⟨⟨by decide +kernel, by decide +kernel⟩, List.mem_of_getElem? (i := 407) (by decide +kernel), List.mem_of_getElem? (i := 506) (by decide +kernel), List.mem_of_getElem? (i := 507) (by decide +kernel)⟩
theorem lw_p27 : lw_okq (⟨"NibbleTrieModel", "common", "(II)I"⟩, 17) := ⟨⟨by decide +kernel, by decide +kernel⟩, List.mem_of_getElem? (i := 407) (by decide +kernel), List.mem_of_getElem? (i := 513) (by decide +kernel), List.mem_of_getElem? (i := 514) (by decide +kernel)⟩
theorem lw_p28 : lw_okq (⟨"NibbleTrieModel", "member", "(II)I"⟩, 17) := ⟨⟨by decide +kernel, by decide +kernel⟩, List.mem_of_getElem? (i := 407) (by decide +kernel), List.mem_of_getElem? (i := 517) (by decide +kernel), List.mem_of_getElem? (i := 518) (by decide +kernel)⟩
theorem lw_p29 : lw_okq (⟨"NibbleTrieModel", "encode", "(II)V"⟩, 17) := ⟨⟨by decide +kernel, by decide +kernel⟩, List.mem_of_getElem? (i := 407) (by decide +kernel), List.mem_of_getElem? (i := 521) (by decide +kernel), List.mem_of_getElem? (i := 522) (by decide +kernel)⟩
theorem lw_p30 : lw_okq (⟨"NibbleTrieModel", "reference", "(IIZ)V"⟩, 17) := ⟨⟨by decide +kernel, by decide +kernel⟩, List.mem_of_getElem? (i := 407) (by decide +kernel), List.mem_of_getElem? (i := 525) (by decide +kernel), List.mem_of_getElem? (i := 526) (by decide +kernel)⟩
theorem lw_p31 : lw_okq (⟨"NibbleTrieModel", "say", "(J)V"⟩, 17) := ⟨⟨by decide +kernel, by decide +kernel⟩, List.mem_of_getElem? (i := 407) (by decide +kernel), List.mem_of_getElem? (i := 529) (by decide +kernel), List.mem_of_getElem? (i := 530) (by decide +kernel)⟩
def lw_privs_2 : List (MethodName × Nat) := [(⟨"NibbleTrie$Proof", "takeTopReference", "(J)V"⟩, 8), (⟨"NibbleTrie$Proof", "hasReference", "(I)Z"⟩, 8), (⟨"NibbleTrie$Proof", "end", "(J)V"⟩, 8), (⟨"NibbleTrie$Proof", "followDigest", "(J)V"⟩, 8), (⟨"NibbleTrie$Proof", "followPair", "(JJ)V"⟩, 8), (⟨"NibbleTrieModel", "find", "(II)I"⟩, 17), (⟨"NibbleTrieModel", "valueIn", "(II)I"⟩, 17), (⟨"NibbleTrieModel", "build", "(I)V"⟩, 17), (⟨"NibbleTrieModel", "place", "(II)I"⟩, 17), (⟨"NibbleTrieModel", "isBranch", "(II)Z"⟩, 17), (⟨"NibbleTrieModel", "members", "(II)I"⟩, 17), (⟨"NibbleTrieModel", "common", "(II)I"⟩, 17), (⟨"NibbleTrieModel", "member", "(II)I"⟩, 17), (⟨"NibbleTrieModel", "encode", "(II)V"⟩, 17), (⟨"NibbleTrieModel", "reference", "(IIZ)V"⟩, 17), (⟨"NibbleTrieModel", "say", "(J)V"⟩, 17)]
theorem lw_r2 : ∀ q ∈ lw_privs_2, lw_okq q := List.forall_mem_cons.mpr ⟨lw_p16, List.forall_mem_cons.mpr ⟨lw_p17, List.forall_mem_cons.mpr ⟨lw_p18, List.forall_mem_cons.mpr ⟨lw_p19, List.forall_mem_cons.mpr ⟨lw_p20, List.forall_mem_cons.mpr ⟨lw_p21, List.forall_mem_cons.mpr ⟨lw_p22, List.forall_mem_cons.mpr ⟨lw_p23, List.forall_mem_cons.mpr ⟨lw_p24, List.forall_mem_cons.mpr ⟨lw_p25, List.forall_mem_cons.mpr ⟨lw_p26, List.forall_mem_cons.mpr ⟨lw_p27, List.forall_mem_cons.mpr ⟨lw_p28, List.forall_mem_cons.mpr ⟨lw_p29, List.forall_mem_cons.mpr ⟨lw_p30, List.forall_mem_cons.mpr ⟨lw_p31, fun _ h => absurd h List.not_mem_nil⟩⟩⟩⟩⟩⟩⟩⟩⟩⟩⟩⟩⟩⟩⟩⟩
theorem lw_p32 : lw_okq (⟨"NibbleTrieModel", "digestOfWords", "()J"⟩, 17) := ⟨⟨by decide +kernel, by decide +kernel⟩, List.mem_of_getElem? (i := 407) (by decide +kernel), List.mem_of_getElem? (i := 537) (by decide +kernel), List.mem_of_getElem? (i := 538) (by decide +kernel)⟩
theorem lw_p33 : lw_okq (⟨"NibbleTrieModel", "rootOf", "(I)J"⟩, 17) := ⟨⟨by decide +kernel, by decide +kernel⟩, List.mem_of_getElem? (i := 407) (by decide +kernel), List.mem_of_getElem? (i := 545) (by decide +kernel), List.mem_of_getElem? (i := 546) (by decide +kernel)⟩
theorem lw_p34 : lw_okq (⟨"NibbleTrieModel", "has", "(I)Z"⟩, 17) := ⟨⟨by decide +kernel, by decide +kernel⟩, List.mem_of_getElem? (i := 407) (by decide +kernel), List.mem_of_getElem? (i := 557) (by decide +kernel), List.mem_of_getElem? (i := 558) (by decide +kernel)⟩
theorem lw_p35 : lw_okq (⟨"NibbleTrieModel", "same", "(II)Z"⟩, 17) := ⟨⟨by decide +kernel, by decide +kernel⟩, List.mem_of_getElem? (i := 407) (by decide +kernel), List.mem_of_getElem? (i := 561) (by decide +kernel), List.mem_of_getElem? (i := 562) (by decide +kernel)⟩
theorem lw_p36 : lw_okq (⟨"NibbleTrieModel", "back", "()V"⟩, 17) := ⟨⟨by decide +kernel, by decide +kernel⟩, List.mem_of_getElem? (i := 407) (by decide +kernel), List.mem_of_getElem? (i := 565) (by decide +kernel), List.mem_of_getElem? (i := 566) (by decide +kernel)⟩
theorem lw_p37 : lw_okq (⟨"NibbleTrieModel", "copy", "(II)V"⟩, 17) := ⟨⟨by decide +kernel, by decide +kernel⟩, List.mem_of_getElem? (i := 407) (by decide +kernel), List.mem_of_getElem? (i := 569) (by decide +kernel), List.mem_of_getElem? (i := 570) (by decide +kernel)⟩
theorem lw_p38 : lw_okq (⟨"NibbleTrieModel", "isVersion", "(I)Z"⟩, 17) := ⟨⟨by decide +kernel, by decide +kernel⟩, List.mem_of_getElem? (i := 407) (by decide +kernel), List.mem_of_getElem? (i := 585) (by decide +kernel), List.mem_of_getElem? (i := 586) (by decide +kernel)⟩
theorem lw_p39 : lw_okq (⟨"NibbleTrieModel", "stands", "(I)Z"⟩, 17) := ⟨⟨by decide +kernel, by decide +kernel⟩, List.mem_of_getElem? (i := 407) (by decide +kernel), List.mem_of_getElem? (i := 597) (by decide +kernel), List.mem_of_getElem? (i := 598) (by decide +kernel)⟩
theorem lw_p40 : lw_okq (⟨"NibbleTrieModel", "usesOf", "(I)I"⟩, 17) := ⟨⟨by decide +kernel, by decide +kernel⟩, List.mem_of_getElem? (i := 407) (by decide +kernel), List.mem_of_getElem? (i := 605) (by decide +kernel), List.mem_of_getElem? (i := 606) (by decide +kernel)⟩
theorem lw_p41 : lw_okq (⟨"NibbleTrieModel", "leads", "(III)Z"⟩, 17) := ⟨⟨by decide +kernel, by decide +kernel⟩, List.mem_of_getElem? (i := 407) (by decide +kernel), List.mem_of_getElem? (i := 609) (by decide +kernel), List.mem_of_getElem? (i := 610) (by decide +kernel)⟩
theorem lw_p42 : lw_okq (⟨"NibbleTrieModel", "append", "()V"⟩, 17) := ⟨⟨by decide +kernel, by decide +kernel⟩, List.mem_of_getElem? (i := 407) (by decide +kernel), List.mem_of_getElem? (i := 617) (by decide +kernel), List.mem_of_getElem? (i := 618) (by decide +kernel)⟩
theorem lw_p43 : lw_okq (⟨"NibbleTrieModel", "refer", "(II)Z"⟩, 17) := ⟨⟨by decide +kernel, by decide +kernel⟩, List.mem_of_getElem? (i := 407) (by decide +kernel), List.mem_of_getElem? (i := 640) (by decide +kernel), List.mem_of_getElem? (i := 641) (by decide +kernel)⟩
theorem lw_p44 : lw_okq (⟨"NibbleTrieModel", "digestOf", "(II)J"⟩, 17) := ⟨⟨by decide +kernel, by decide +kernel⟩, List.mem_of_getElem? (i := 407) (by decide +kernel), List.mem_of_getElem? (i := 644) (by decide +kernel), List.mem_of_getElem? (i := 645) (by decide +kernel)⟩
theorem lw_p45 : lw_okq (⟨"NibbleTrieModel", "throughTwo", "()I"⟩, 17) := ⟨⟨by decide +kernel, by decide +kernel⟩, List.mem_of_getElem? (i := 407) (by decide +kernel), List.mem_of_getElem? (i := 648) (by decide +kernel), List.mem_of_getElem? (i := 649) (by decide +kernel)⟩
theorem lw_p46 : lw_okq (⟨"NibbleTrieModel", "throughBranch", "()I"⟩, 17) := ⟨⟨by decide +kernel, by decide +kernel⟩, List.mem_of_getElem? (i := 407) (by decide +kernel), List.mem_of_getElem? (i := 654) (by decide +kernel), List.mem_of_getElem? (i := 655) (by decide +kernel)⟩
theorem lw_p47 : lw_okq (⟨"NibbleTrieModel", "branchEnd", "()I"⟩, 17) := ⟨⟨by decide +kernel, by decide +kernel⟩, List.mem_of_getElem? (i := 407) (by decide +kernel), List.mem_of_getElem? (i := 658) (by decide +kernel), List.mem_of_getElem? (i := 659) (by decide +kernel)⟩
def lw_privs_3 : List (MethodName × Nat) := [(⟨"NibbleTrieModel", "digestOfWords", "()J"⟩, 17), (⟨"NibbleTrieModel", "rootOf", "(I)J"⟩, 17), (⟨"NibbleTrieModel", "has", "(I)Z"⟩, 17), (⟨"NibbleTrieModel", "same", "(II)Z"⟩, 17), (⟨"NibbleTrieModel", "back", "()V"⟩, 17), (⟨"NibbleTrieModel", "copy", "(II)V"⟩, 17), (⟨"NibbleTrieModel", "isVersion", "(I)Z"⟩, 17), (⟨"NibbleTrieModel", "stands", "(I)Z"⟩, 17), (⟨"NibbleTrieModel", "usesOf", "(I)I"⟩, 17), (⟨"NibbleTrieModel", "leads", "(III)Z"⟩, 17), (⟨"NibbleTrieModel", "append", "()V"⟩, 17), (⟨"NibbleTrieModel", "refer", "(II)Z"⟩, 17), (⟨"NibbleTrieModel", "digestOf", "(II)J"⟩, 17), (⟨"NibbleTrieModel", "throughTwo", "()I"⟩, 17), (⟨"NibbleTrieModel", "throughBranch", "()I"⟩, 17), (⟨"NibbleTrieModel", "branchEnd", "()I"⟩, 17)]
theorem lw_r3 : ∀ q ∈ lw_privs_3, lw_okq q := List.forall_mem_cons.mpr ⟨lw_p32, List.forall_mem_cons.mpr ⟨lw_p33, List.forall_mem_cons.mpr ⟨lw_p34, List.forall_mem_cons.mpr ⟨lw_p35, List.forall_mem_cons.mpr ⟨lw_p36, List.forall_mem_cons.mpr ⟨lw_p37, List.forall_mem_cons.mpr ⟨lw_p38, List.forall_mem_cons.mpr ⟨lw_p39, List.forall_mem_cons.mpr ⟨lw_p40, List.forall_mem_cons.mpr ⟨lw_p41, List.forall_mem_cons.mpr ⟨lw_p42, List.forall_mem_cons.mpr ⟨lw_p43, List.forall_mem_cons.mpr ⟨lw_p44, List.forall_mem_cons.mpr ⟨lw_p45, List.forall_mem_cons.mpr ⟨lw_p46, List.forall_mem_cons.mpr ⟨lw_p47, fun _ h => absurd h List.not_mem_nil⟩⟩⟩⟩⟩⟩⟩⟩⟩⟩⟩⟩⟩⟩⟩⟩
def lw_privs : List (MethodName × Nat) := lw_privs_1 ++ (lw_privs_2 ++ (lw_privs_3))
def lw_tbl : List Cond := k2_sels lw_privs ++ tables_1
theorem lw_privs_ok : ∀ q ∈ lw_privs, lw_okq q := by
  show ∀ q ∈ lw_privs_1 ++ (lw_privs_2 ++ (lw_privs_3)), lw_okq q
  exact List.forall_mem_append.mpr ⟨lw_r1, List.forall_mem_append.mpr ⟨lw_r2, lw_r3⟩⟩
end
section
/-! Names: classes, their fields, the words that stay. -/
def tG : List Cond := lw_tbl.filter goodWord
theorem tg_of {i : Nat} {w : Cond} (h : tables_1[i]? = some w) (g : goodWord w = true) : w ∈ tG := List.mem_filter.mpr ⟨List.mem_append_right _ (List.mem_of_getElem? h), g⟩
theorem ts_of {i : Nat} {w : Cond} (h : (k2_sels lw_privs)[i]? = some w) (g : goodWord w = true) : w ∈ tG := List.mem_filter.mpr ⟨List.mem_append_left _ (List.mem_of_getElem? h), g⟩
theorem gx {q : Cond} {y : MethodName} {b : ByteArray} {n : Nat} {r : Option FieldType} (h : Cond.code y b n r ∈ tG) : GoodIn (q :: tG) (Cond.code y b n r :: tG) := fun w hw => by
  rcases List.mem_cons.mp hw with rfl | hw
  · exact ⟨List.mem_cons_of_mem _ h, good_of_word (List.mem_filter.mp h).2⟩
  · exact ⟨List.mem_cons_of_mem _ hw, good_of_word (List.mem_filter.mp hw).2⟩
abbrev R_PM : String := "NibbleTrie$PathMap"
def F_PM : u_T := fun k => match k with
  | 0 => ("NibbleTrie$PathMap", "paths", "[I", true)
  | 1 => ("NibbleTrie$PathMap", "values", "[I", true)
  | _ => ("NibbleTrie$PathMap", "rows", "I", false)
def T_PM : Nat → FieldType := fun k => match k with
  | 0 => .array .int
  | 1 => .array .int
  | _ => .int
theorem n_PM : ∀ a, a < 3 → ∀ b, b < 3 → a ≠ b → (F_PM a).2.1 ≠ (F_PM b).2.1 := by decide +kernel
theorem T_PM_ok : ∀ k, k < 3 → parseFieldDescriptor (F_PM k).2.2.1 = some (T_PM k) := by decide +kernel
theorem in_PM : ∀ w ∈ u_ws R_PM F_PM 3, w ∈ tG := by decide +kernel
abbrev R_PF : String := "NibbleTrie$Proof"
def F_PF : u_T := fun k => match k with
  | 0 => ("NibbleTrie$Proof", "words", "[J", true)
  | 1 => ("NibbleTrie$Proof", "length", "I", false)
  | 2 => ("NibbleTrie$Proof", "state", "I", false)
  | 3 => ("NibbleTrie$Proof", "next", "I", false)
  | 4 => ("NibbleTrie$Proof", "left", "I", false)
  | 5 => ("NibbleTrie$Proof", "reference", "I", false)
  | 6 => ("NibbleTrie$Proof", "referenceWords", "I", false)
  | _ => ("NibbleTrie$Proof", "shown", "J", false)
def T_PF : Nat → FieldType := fun k => match k with
  | 0 => .array .long
  | 1 => .int
  | 2 => .int
  | 3 => .int
  | 4 => .int
  | 5 => .int
  | 6 => .int
  | _ => .long
theorem n_PF : ∀ a, a < 8 → ∀ b, b < 8 → a ≠ b → (F_PF a).2.1 ≠ (F_PF b).2.1 := by decide +kernel
theorem T_PF_ok : ∀ k, k < 8 → parseFieldDescriptor (F_PF k).2.2.1 = some (T_PF k) := by decide +kernel
theorem in_PF : ∀ w ∈ u_ws R_PF F_PF 8, w ∈ tG := by decide +kernel
abbrev R_TR : String := "NibbleTrie$Trie"
def F_TR : u_T := fun k => match k with
  | 0 => ("NibbleTrie$Trie", "map", "LNibbleTrie$PathMap;", true)
  | 1 => ("NibbleTrie$Trie", "leaves", "I", false)
  | 2 => ("NibbleTrie$Trie", "extensions", "I", false)
  | 3 => ("NibbleTrie$Trie", "branches", "I", false)
  | 4 => ("NibbleTrie$Trie", "parent", "[I", true)
  | 5 => ("NibbleTrie$Trie", "firstRow", "[I", true)
  | 6 => ("NibbleTrie$Trie", "endRow", "[I", true)
  | 7 => ("NibbleTrie$Trie", "depth", "[I", true)
  | 8 => ("NibbleTrie$Trie", "topReference", "[J", true)
  | _ => ("NibbleTrie$Trie", "drafts", "[[J", true)
def T_TR : Nat → FieldType := fun k => match k with
  | 0 => .object "NibbleTrie$PathMap"
  | 1 => .int
  | 2 => .int
  | 3 => .int
  | 4 => .array .int
  | 5 => .array .int
  | 6 => .array .int
  | 7 => .array .int
  | 8 => .array .long
  | _ => .array (.array .long)
theorem n_TR : ∀ a, a < 10 → ∀ b, b < 10 → a ≠ b → (F_TR a).2.1 ≠ (F_TR b).2.1 := by decide +kernel
theorem T_TR_ok : ∀ k, k < 10 → parseFieldDescriptor (F_TR k).2.2.1 = some (T_TR k) := by decide +kernel
theorem in_TR : ∀ w ∈ u_ws R_TR F_TR 10, w ∈ tG := by decide +kernel
abbrev R_NT : String := "NibbleTrie"
def F_NT : u_T := fun k => match k with
  | 0 => ("NibbleTrie", "working", "LNibbleTrie$Trie;", true)
  | 1 => ("NibbleTrie", "kept", "[LNibbleTrie$Trie;", true)
  | 2 => ("NibbleTrie", "keptNow", "I", false)
  | _ => ("NibbleTrie", "proof", "LNibbleTrie$Proof;", true)
def T_NT : Nat → FieldType := fun k => match k with
  | 0 => .object "NibbleTrie$Trie"
  | 1 => .array (.object "NibbleTrie$Trie")
  | 2 => .int
  | _ => .object "NibbleTrie$Proof"
theorem n_NT : ∀ a, a < 4 → ∀ b, b < 4 → a ≠ b → (F_NT a).2.1 ≠ (F_NT b).2.1 := by decide +kernel
theorem T_NT_ok : ∀ k, k < 4 → parseFieldDescriptor (F_NT k).2.2.1 = some (T_NT k) := by decide +kernel
theorem in_NT : ∀ w ∈ u_ws R_NT F_NT 4, w ∈ tG := by decide +kernel
abbrev R_MO : String := "NibbleTrieModel"
def F_MO : u_T := fun k => match k with
  | 0 => ("NibbleTrieModel", "keys", "[I", true)
  | 1 => ("NibbleTrieModel", "values", "[I", true)
  | 2 => ("NibbleTrieModel", "sizes", "[I", true)
  | 3 => ("NibbleTrieModel", "kept", "I", false)
  | 4 => ("NibbleTrieModel", "many", "I", false)
  | 5 => ("NibbleTrieModel", "branch", "[I", true)
  | 6 => ("NibbleTrieModel", "digest", "[J", true)
  | 7 => ("NibbleTrieModel", "branches", "[I", true)
  | 8 => ("NibbleTrieModel", "words", "[J", true)
  | 9 => ("NibbleTrieModel", "length", "I", false)
  | 10 => ("NibbleTrieModel", "proof", "[J", true)
  | 11 => ("NibbleTrieModel", "proofLength", "I", false)
  | 12 => ("NibbleTrieModel", "at", "I", false)
  | 13 => ("NibbleTrieModel", "first", "J", false)
  | 14 => ("NibbleTrieModel", "second", "J", false)
  | 15 => ("NibbleTrieModel", "count", "I", false)
  | _ => ("NibbleTrieModel", "path", "I", false)
def T_MO : Nat → FieldType := fun k => match k with
  | 0 => .array .int
  | 1 => .array .int
  | 2 => .array .int
  | 3 => .int
  | 4 => .int
  | 5 => .array .int
  | 6 => .array .long
  | 7 => .array .int
  | 8 => .array .long
  | 9 => .int
  | 10 => .array .long
  | 11 => .int
  | 12 => .int
  | 13 => .long
  | 14 => .long
  | 15 => .int
  | _ => .int
theorem n_MO : ∀ a, a < 17 → ∀ b, b < 17 → a ≠ b → (F_MO a).2.1 ≠ (F_MO b).2.1 := by decide +kernel
theorem T_MO_ok : ∀ k, k < 17 → parseFieldDescriptor (F_MO k).2.2.1 = some (T_MO k) := by decide +kernel
theorem in_MO : ∀ w ∈ u_ws R_MO F_MO 17, w ∈ tG := by decide +kernel
abbrev classes : List vw_C := [(R_PM, F_PM, 3), (R_PF, F_PF, 8), (R_TR, F_TR, 10), (R_NT, F_NT, 4), (R_MO, F_MO, 17)]
end
section
/-! My own layer, first half: a typed memory (ints, longs, addresses by cell and place), the words of the pure functions. -/
abbrev Mm : Type := (Nat → Nat → Int32) × (Nat → Nat → Int64) × (Nat → Nat → Nat)
def gi (M : Mm) (a k : Nat) : Int32 := M.1 a k
def gl (M : Mm) (a k : Nat) : Int64 := M.2.1 a k
def gr (M : Mm) (a k : Nat) : Nat := M.2.2 a k
def si (M : Mm) (a k : Nat) (x : Int32) : Mm := (fun b j => if b = a ∧ j = k then x else M.1 b j, M.2)
def sl (M : Mm) (a k : Nat) (x : Int64) : Mm := (M.1, fun b j => if b = a ∧ j = k then x else M.2.1 b j, M.2.2)
def sr (M : Mm) (a k : Nat) (x : Nat) : Mm := (M.1, M.2.1, fun b j => if b = a ∧ j = k then x else M.2.2 b j)
/-- a loop's fuel, a recursion's depth -/
def FU : Nat := 4096
def RD : Nat := 8
/-- a place of an array of n places -/
def ix (i : Int32) (n : Nat) : Option Nat := if i < 0 ∨ n ≤ i.toNatClampNeg then none else some i.toNatClampNeg
def st {α β : Type} (a : α) (k : α → β) : β := k a
def imin (x y : Int32) : Int32 := if y < x then y else x
def imax (x y : Int32) : Int32 := if x < y then y else x
/-- System.arraycopy of ints -/
def cpI (G : Nat → Nat) (M : Mm) (a0 : Nat) (sp : Int32) (a : Nat) (dp n : Int32) : Option Mm :=
  if sp < 0 ∨ dp < 0 ∨ n < 0 ∨ G a0 < sp.toNatClampNeg + n.toNatClampNeg ∨ G a < dp.toNatClampNeg + n.toNatClampNeg then none
  else some (fun b j => if b = a then va_cpy (M.1 a0) (M.1 a) sp.toNatClampNeg dp.toNatClampNeg n.toNatClampNeg j else M.1 b j, M.2)
theorem ixE {i : Int32} {n j : Nat} (h : ix i n = some j) : vp_in i n ∧ i.toNatClampNeg = j := by
  unfold ix at h
  by_cases c : i < 0 ∨ n ≤ i.toNatClampNeg
  · rw [if_pos c] at h; cases h
  · rw [if_neg c] at h; exact ⟨c, Option.some.inj h⟩
theorem stE {α β : Type} {a : α} {k : α → β} {r : β} (h : st a k = r) : ∃ x, x = a ∧ k x = r := ⟨a, rfl, h⟩
theorem stA {α β : Type} {a x : α} {k : α → β} {r : β} (h : st a k = r) (e : x = a) : k x = r := by rw [e]; exact h
theorem ob {α β : Type} {o : Option α} {f : α → Option β} {r : β} (h : o.bind f = some r) : ∃ x, o = some x ∧ f x = some r := Option.bind_eq_some_iff.mp h
theorem ifP {α : Type} {c : Prop} [Decidable c] {a b r : α} (h : (if c then a else b) = r) (hc : c) : a = r := by rw [if_pos hc] at h; exact h
theorem ifN {α : Type} {c : Prop} [Decidable c] {a b r : α} (h : (if c then a else b) = r) (hc : ¬ c) : b = r := by rw [if_neg hc] at h; exact h
end
section
/-! My own layer, second half: the world as one pool of typed cells; rows for fields, arrays, calls. -/
abbrev En : Type := va_G × ClassId × ClassId × ClassId × ClassId
def tys (E : En) : List (ClassId × FieldType) := [(E.2.1, .int), (E.2.2.1, .long), (E.2.2.2.1, .object "NibbleTrie$Trie"), (E.2.2.2.2, .array .long)]
def enc (E : En) (K G : Nat → Nat) (M : Mm) (a : Nat) : va_E := match K a with
  | 1 => .inl (E.2.1, G a, .inl (M.1 a))
  | 2 => .inl (E.2.2.1, G a, .inr (.inl (M.2.1 a)))
  | 3 => .inl (E.2.2.2.1, G a, .inr (.inr (.inr (.inr (fun j => some (M.2.2 a j))))))
  | 4 => .inl (E.2.2.2.2, G a, .inr (.inr (.inr (.inr (fun j => some (M.2.2 a j))))))
  | 5 => .inr (3, [.ref (M.2.2 a 0), .ref (M.2.2 a 1), .int (M.1 a 2), .ref (M.2.2 a 3)])
  | 6 => .inr (2, [.ref (M.2.2 a 0), .int (M.1 a 1), .int (M.1 a 2), .int (M.1 a 3), .ref (M.2.2 a 4), .ref (M.2.2 a 5), .ref (M.2.2 a 6), .ref (M.2.2 a 7), .ref (M.2.2 a 8), .ref (M.2.2 a 9)])
  | 7 => .inr (0, [.ref (M.2.2 a 0), .ref (M.2.2 a 1), .int (M.1 a 2)])
  | 8 => .inr (1, [.ref (M.2.2 a 0), .int (M.1 a 1), .int (M.1 a 2), .int (M.1 a 3), .int (M.1 a 4), .int (M.1 a 5), .int (M.1 a 6), .long (M.2.1 a 7)])
  | 9 => .inr (4, [.ref (M.2.2 a 0), .ref (M.2.2 a 1), .ref (M.2.2 a 2), .int (M.1 a 3), .int (M.1 a 4), .ref (M.2.2 a 5), .ref (M.2.2 a 6), .ref (M.2.2 a 7), .ref (M.2.2 a 8), .int (M.1 a 9), .ref (M.2.2 a 10), .int (M.1 a 11), .int (M.1 a 12), .long (M.2.1 a 13), .long (M.2.1 a 14), .int (M.1 a 15), .int (M.1 a 16)])
  | _ => .inr (99, [])
def AL (L : List Nat) (sz : Nat) : Nat → Prop := fun q => q ∈ L ∨ sz ≤ q
def Inv (K G : Nat → Nat) (L : List Nat) (R : Nat → Nat → Nat) : Prop := (∀ a, K a ≠ 0 → a ∈ L) ∧ (∀ a, K a = 3 → ∀ i, i < G a → K (R a i) = 6) ∧ (∀ a, K a = 4 → ∀ i, i < G a → K (R a i) = 2) ∧ (∀ a, K a = 5 → K (R a 0) = 6 ∧ K (R a 1) = 3 ∧ K (R a 3) = 8) ∧ (∀ a, K a = 6 → K (R a 0) = 7 ∧ K (R a 4) = 1 ∧ K (R a 5) = 1 ∧ K (R a 6) = 1 ∧ K (R a 7) = 1 ∧ K (R a 8) = 2 ∧ K (R a 9) = 4) ∧ (∀ a, K a = 7 → K (R a 0) = 1 ∧ K (R a 1) = 1) ∧ (∀ a, K a = 8 → K (R a 0) = 2) ∧ (∀ a, K a = 9 → K (R a 0) = 1 ∧ K (R a 1) = 1 ∧ K (R a 2) = 1 ∧ K (R a 5) = 1 ∧ K (R a 6) = 2 ∧ K (R a 7) = 1 ∧ K (R a 8) = 2 ∧ K (R a 10) = 2)
def NWs (U : State) : Prop := va_Nw (.methodLinkNest "NibbleTrie" 11 ⟨"NibbleTrie$Trie", "<init>", "()V"⟩ "NibbleTrie") U ∧ va_Nw (.methodLinkNest "NibbleTrie$Trie" 11 ⟨"NibbleTrie$PathMap", "<init>", "()V"⟩ "NibbleTrie") U ∧ va_Nw (.methodLinkNest "NibbleTrie" 22 ⟨"NibbleTrie$Proof", "<init>", "()V"⟩ "NibbleTrie") U ∧ va_Nw (.methodLinkNest "NibbleTrie$Trie" 112 ⟨"NibbleTrie", "digest", "([JII)J"⟩ "NibbleTrie") U ∧ va_Nw (.methodLinkNest "NibbleTrie$Proof" 63 ⟨"NibbleTrie", "digest", "([JII)J"⟩ "NibbleTrie") U
theorem NWs.warm {s U : State} (hW : s.WarmedH U.vm) (h : NWs s) : NWs U := ⟨va_Nw.warmM hW h.1, va_Nw.warmM hW h.2.1, va_Nw.warmM hW h.2.2.1, va_Nw.warmM hW h.2.2.2.1, va_Nw.warmM hW h.2.2.2.2⟩
theorem NWs.same {u U : State} (e : u.vm = U.vm) (h : NWs u) : NWs U := ⟨va_Nw.same rfl e h.1, va_Nw.same rfl e h.2.1, va_Nw.same rfl e h.2.2.1, va_Nw.same rfl e h.2.2.2.1, va_Nw.same rfl e h.2.2.2.2⟩
def Wt (E : En) (K G : Nat → Nat) (L : List Nat) (M : Mm) (A : Nat → Prop) (t : State) : Prop := va_P E.1 classes (va_pl L (enc E K G M)) t.heap ∧ va_K E.1 classes (tys E) t ∧ va_D A (va_pl L (enc E K G M)) ∧ Inv K G L M.2.2
def Wp (E : En) (K G : Nat → Nat) (L : List Nat) (M : Mm) (sz : Nat) (U : State) : Prop := U.heap.size = sz ∧ Wt E K G L M (fun _ => True) U ∧ NWs U
def Wd (E : En) (K G : Nat → Nat) (L : List Nat) (M : Mm) (H0 H : Heap) (locs : List Loc) (s : State) : Prop := va_P E.1 classes (va_pl L (enc E K G M)) H ∧ va_D (AL L H0.size) (va_pl L (enc E K G M)) ∧ va_S (AL L H0.size) H0 H locs ∧ va_K E.1 classes (tys E) s ∧ Inv K G L M.2.2 ∧ NWs s
theorem pl_at {A : Nat → Prop} {L : List Nat} {f g : Nat → va_E} (h : va_D A (va_pl L f)) {B : Nat → Prop} (hB : ∀ a, a ∈ L → B a) : va_D B (va_pl L g) := by
  refine ⟨fun i j x y hi hj hxy => ?_, fun k q hk => ?_⟩
  · simp only [va_pl, List.getElem?_map] at hi hj
    cases ei : L[i]? with
    | none => rw [ei] at hi; cases hi
    | some u =>
      cases ej : L[j]? with
      | none => rw [ej] at hj; cases hj
      | some v =>
        rw [ei] at hi
        rw [ej] at hj
        have hx : (u, g u) = x := Option.some.inj hi
        have hy : (v, g v) = y := Option.some.inj hj
        have huv : u = v := by rw [← hx, ← hy] at hxy; exact hxy
        refine h.1 i j (u, f u) (v, f v) ?_ ?_ huv
        · simp only [va_pl, List.getElem?_map, ei]; rfl
        · simp only [va_pl, List.getElem?_map, ej]; rfl
  · simp only [va_pl, List.getElem?_map] at hk
    cases ek : L[k]? with
    | none => rw [ek] at hk; cases hk
    | some u =>
      rw [ek] at hk
      have hx : (u, g u) = q := Option.some.inj hk
      rw [← hx]
      exact hB u (List.mem_of_getElem? ek)
theorem Wd.start {E : En} {K G : Nat → Nat} {L : List Nat} {M : Mm} {s : State} {sz : Nat} (h : Wp E K G L M sz s) : Wd E K G L M s.heap s.heap [] s := ⟨h.2.1.1, pl_at h.2.1.2.2.1 (fun _ h => Or.inl h), va_S.rf, h.2.1.2.1, h.2.1.2.2.2, h.2.2⟩
theorem Wp.calling {E : En} {K G : Nat → Nat} {L : List Nat} {M : Mm} {sz : Nat} {U : State} {g : JFrame} {mk : MethodId} {a : Array Value} (h : Wp E K G L M sz U) : Wp E K G L M sz (U.calling g mk a) := ⟨h.1, ⟨h.2.1.1, va_K.moved (u := U) (U := U.calling g mk a) (Vm.Alike.refl U.vm) h.2.1.2.1, h.2.1.2.2⟩, NWs.same (u := U) (U := U.calling g mk a) rfl h.2.2⟩
theorem Wd.pre {E : En} {K G : Nat → Nat} {L : List Nat} {M : Mm} {H0 H : Heap} {locs : List Loc} {s U : State} (h : Wd E K G L M H0 H locs s) (hU : U.heap = H) (hW : s.WarmedH U.vm) : Wp E K G L M H.size U := ⟨by rw [hU], ⟨by rw [hU]; exact h.1, va_K.moved hW.alike h.2.2.2.1, pl_at h.2.1 (fun _ _ => trivial), h.2.2.2.2.1⟩, NWs.warm hW h.2.2.2.2.2⟩
theorem Wd.blind {E : En} {K G : Nat → Nat} {L : List Nat} {M : Mm} {sz : Nat} {av : List Value} : FrameBlind (va_Pc av (Wp E K G L M sz)) := fun _ _ _ _ q => ⟨q.1, q.2.calling⟩
theorem Wd.preS {E : En} {K G : Nat → Nat} {L : List Nat} {M : Mm} {H0 H : Heap} {locs : List Loc} {s : State} (h : Wd E K G L M H0 H locs s) {As : List Value} : PreS s H (va_Pc As (Wp E K G L M H.size)) As := ⟨Wd.blind, fun _ hU hW => ⟨rfl, h.pre hU hW⟩⟩
section ENC
variable {E : En} {K G : Nat → Nat} {L : List Nat} {M : Mm} {a : Nat}
theorem enc1 (h : K a = 1) : enc E K G M a = .inl (E.2.1, G a, .inl (M.1 a)) := by unfold enc; rw [h]; rfl
theorem enc2 (h : K a = 2) : enc E K G M a = .inl (E.2.2.1, G a, .inr (.inl (M.2.1 a))) := by unfold enc; rw [h]; rfl
theorem enc3 (h : K a = 3) : enc E K G M a = .inl (E.2.2.2.1, G a, .inr (.inr (.inr (.inr (fun j => some (M.2.2 a j)))))) := by unfold enc; rw [h]; rfl
theorem enc4 (h : K a = 4) : enc E K G M a = .inl (E.2.2.2.2, G a, .inr (.inr (.inr (.inr (fun j => some (M.2.2 a j)))))) := by unfold enc; rw [h]; rfl
theorem enc5 (h : K a = 5) : enc E K G M a = .inr (3, [.ref (M.2.2 a 0), .ref (M.2.2 a 1), .int (M.1 a 2), .ref (M.2.2 a 3)]) := by unfold enc; rw [h]; rfl
theorem enc6 (h : K a = 6) : enc E K G M a = .inr (2, [.ref (M.2.2 a 0), .int (M.1 a 1), .int (M.1 a 2), .int (M.1 a 3), .ref (M.2.2 a 4), .ref (M.2.2 a 5), .ref (M.2.2 a 6), .ref (M.2.2 a 7), .ref (M.2.2 a 8), .ref (M.2.2 a 9)]) := by unfold enc; rw [h]; rfl
theorem enc7 (h : K a = 7) : enc E K G M a = .inr (0, [.ref (M.2.2 a 0), .ref (M.2.2 a 1), .int (M.1 a 2)]) := by unfold enc; rw [h]; rfl
theorem enc8 (h : K a = 8) : enc E K G M a = .inr (1, [.ref (M.2.2 a 0), .int (M.1 a 1), .int (M.1 a 2), .int (M.1 a 3), .int (M.1 a 4), .int (M.1 a 5), .int (M.1 a 6), .long (M.2.1 a 7)]) := by unfold enc; rw [h]; rfl
theorem enc9 (h : K a = 9) : enc E K G M a = .inr (4, [.ref (M.2.2 a 0), .ref (M.2.2 a 1), .ref (M.2.2 a 2), .int (M.1 a 3), .int (M.1 a 4), .ref (M.2.2 a 5), .ref (M.2.2 a 6), .ref (M.2.2 a 7), .ref (M.2.2 a 8), .int (M.1 a 9), .ref (M.2.2 a 10), .int (M.1 a 11), .int (M.1 a 12), .long (M.2.1 a 13), .long (M.2.1 a 14), .int (M.1 a 15), .int (M.1 a 16)]) := by unfold enc; rw [h]; rfl
theorem enc_eq {M M2 : Mm} {b : Nat} (h1 : M2.1 b = M.1 b) (h2 : M2.2.1 b = M.2.1 b) (h3 : M2.2.2 b = M.2.2 b) : enc E K G M2 b = enc E K G M b := by unfold enc; rw [h1, h2, h3]
theorem si_ne {b k : Nat} {x : Int32} (h : b ≠ a) : (si M a k x).1 b = M.1 b := by funext j; simp [si, h]
theorem sl_ne {b k : Nat} {x : Int64} (h : b ≠ a) : (sl M a k x).2.1 b = M.2.1 b := by funext j; simp [sl, h]
theorem sr_ne {b k x : Nat} (h : b ≠ a) : (sr M a k x).2.2 b = M.2.2 b := by funext j; simp [sr, h]
theorem si_up {k : Nat} {x : Int32} {v : va_E} (hv : enc E K G (si M a k x) a = v) : va_up (enc E K G M) a v = enc E K G (si M a k x) := by
  funext b
  by_cases h : b = a
  · subst h; rw [va_up_self, hv]
  · rw [va_up_ne _ _ h]; exact (enc_eq (si_ne h) rfl rfl).symm
theorem sl_up {k : Nat} {x : Int64} {v : va_E} (hv : enc E K G (sl M a k x) a = v) : va_up (enc E K G M) a v = enc E K G (sl M a k x) := by
  funext b
  by_cases h : b = a
  · subst h; rw [va_up_self, hv]
  · rw [va_up_ne _ _ h]; exact (enc_eq (M := M) (M2 := sl M a k x) rfl (sl_ne h) rfl).symm
theorem sr_up {k x : Nat} {v : va_E} (hv : enc E K G (sr M a k x) a = v) : va_up (enc E K G M) a v = enc E K G (sr M a k x) := by
  funext b
  by_cases h : b = a
  · subst h; rw [va_up_self, hv]
  · rw [va_up_ne _ _ h]; exact (enc_eq (M := M) (M2 := sr M a k x) rfl rfl (sr_ne h)).symm
theorem si_1 {k : Nat} {x : Int32} : (si M a k x).1 a = upd (M.1 a) k x := by funext j; simp [si, upd]
theorem sl_1 {k : Nat} {x : Int64} : (sl M a k x).2.1 a = vp_updL (M.2.1 a) k x := by funext j; simp [sl, vp_updL]
theorem sr_1 {k x : Nat} : (fun j => some ((sr M a k x).2.2 a j)) = va_up (fun j => some (M.2.2 a j)) k (some x) := by funext j; by_cases h : j = k <;> simp [sr, va_up, h]
theorem al_le {H0 H : Heap} {A : Nat → Prop} {locs : List Loc} (h : va_S A H0 H locs) {q : Nat} (hq : AL L H.size q) : AL L H0.size q := hq.elim Or.inl (fun z => Or.inr (Nat.le_trans h.1 z))
end ENC
section ROW
variable {p : Program} {l : Launch} {e : Env} {R : Room} {s : State} {m : MethodId} {args : Array Value} {below : List Frame} {meth : Method} {c : Code} {H : Heap} {locs : List Loc} {Q : State → Prop} {cc : ByteArray} {pc nL : Nat} {ls : Array Slot} {rest : List Value} {E : En} {K G : Nat → Nat} {L : List Nat} {M : Mm} {H0 : Heap} {a : Nat} {own : String} {qc : Cond} {idx : Nat}
theorem pool (hWd : Wd E K G L M H0 H locs s) (h : K a ≠ 0) : ∃ k : Nat, (va_pl L (enc E K G M))[k]? = some (a, enc E K G M a) := va_pl_get (X := []) (hWd.2.2.2.2.1.1 a h)
theorem moved (hWd : Wd E K G L M H0 H locs s) {M2 : Mm} {H1 : Heap} {locs1 : List Loc} {k : Nat} {v : va_E} (hk : (va_pl L (enc E K G M))[k]? = some (a, enc E K G M a)) (ha : K a ≠ 0) (hu : va_up (enc E K G M) a v = enc E K G M2) (hR : Inv K G L M2.2.2) (hP : va_P E.1 classes ((va_pl L (enc E K G M)).set k (a, v)) H1) (hS : va_S (AL L H0.size) H0 H1 locs1) : Wd E K G L M2 H0 H1 locs1 s := by
  have e := va_pl_set (X := []) (e := v) hWd.2.1 (hWd.2.2.2.2.1.1 a ha) hk
  have e2 : (va_pl L (enc E K G M)).set k (a, v) = va_pl L (enc E K G M2) := by rw [← hu]; exact e
  rw [e2] at hP
  exact ⟨hP, pl_at hWd.2.1 (fun _ h => Or.inl h), hS, hWd.2.2.2.1, hR, hWd.2.2.2.2.2⟩
theorem r_iald (hX : CallFix p m c cc nL s args (qc :: tG) own) (hWd : Wd E K G L M H0 H locs s) (ha : K a = 1) {i : Int32} {j : Nat} (hj : ix i (G a) = some j) (hdg : decode cc pc = .ok (.iaload, 1)) (kk : W p l e R s m args below meth c H locs 0 0 Q (F0 m (pc + 1) ls (.int (gi M a j) :: rest))) : W p l e R s m args below meth c H locs 0 0 Q (F0 m pc ls (.int i :: .ref a :: rest)) := by
  obtain ⟨q, hq⟩ := pool hWd (show K a ≠ 0 by rw [ha]; decide)
  rw [enc1 ha] at hq
  obtain ⟨h1, rfl⟩ := ixE hj
  exact va_iald hX.1 hX.2.1 hWd.2.2.2.1 hWd.1 q 0 hq rfl h1 hdg kk
theorem r_lald (hX : CallFix p m c cc nL s args (qc :: tG) own) (hWd : Wd E K G L M H0 H locs s) (ha : K a = 2) {i : Int32} {j : Nat} (hj : ix i (G a) = some j) (hdg : decode cc pc = .ok (.laload, 1)) (kk : W p l e R s m args below meth c H locs 0 0 Q (F0 m (pc + 1) ls (.long (gl M a j) :: rest))) : W p l e R s m args below meth c H locs 0 0 Q (F0 m pc ls (.int i :: .ref a :: rest)) := by
  obtain ⟨q, hq⟩ := pool hWd (show K a ≠ 0 by rw [ha]; decide)
  rw [enc2 ha] at hq
  obtain ⟨h1, rfl⟩ := ixE hj
  exact va_lald hX.1 hX.2.1 hWd.2.2.2.1 hWd.1 q 1 hq rfl h1 hdg kk
theorem r_tald (hX : CallFix p m c cc nL s args (qc :: tG) own) (hWd : Wd E K G L M H0 H locs s) (ha : K a = 3) {i : Int32} {j : Nat} (hj : ix i (G a) = some j) (hdg : decode cc pc = .ok (.aaload, 1)) (kk : W p l e R s m args below meth c H locs 0 0 Q (F0 m (pc + 1) ls (.ref (gr M a j) :: rest))) : W p l e R s m args below meth c H locs 0 0 Q (F0 m pc ls (.int i :: .ref a :: rest)) := by
  obtain ⟨q, hq⟩ := pool hWd (show K a ≠ 0 by rw [ha]; decide)
  rw [enc3 ha] at hq
  obtain ⟨h1, rfl⟩ := ixE hj
  exact va_aldq hX.1 hX.2.1 hWd.2.2.2.1 hWd.1 q 2 hq rfl h1 hdg kk
theorem r_gald (hX : CallFix p m c cc nL s args (qc :: tG) own) (hWd : Wd E K G L M H0 H locs s) (ha : K a = 4) {i : Int32} {j : Nat} (hj : ix i (G a) = some j) (hdg : decode cc pc = .ok (.aaload, 1)) (kk : W p l e R s m args below meth c H locs 0 0 Q (F0 m (pc + 1) ls (.ref (gr M a j) :: rest))) : W p l e R s m args below meth c H locs 0 0 Q (F0 m pc ls (.int i :: .ref a :: rest)) := by
  obtain ⟨q, hq⟩ := pool hWd (show K a ≠ 0 by rw [ha]; decide)
  rw [enc4 ha] at hq
  obtain ⟨h1, rfl⟩ := ixE hj
  have hlt : i.toNatClampNeg < G a := Nat.not_le.mp fun q => h1 (Or.inr q)
  exact W.aald (v := .ref (gr M a i.toNatClampNeg)) (ty := .array .long) hX.1 hX.2.1 (hWd.1 q _ hq) ((hWd.2.2.2.1.2 3 _ rfl).1 (G a) (fun j => va_rf (some (M.2.2 a j)))) rfl (fun q => by cases q) (by show ¬ (i < 0 ∨ (arrV _ _ _).slots.size ≤ _); rw [arrV_size]; exact h1) (by show (arrV _ _ _).slots[_]? = _; rw [arrV_read _ _ hlt]; rfl) rfl rfl hdg kk
theorem r_iast (hX : CallFix p m c cc nL s args (qc :: tG) own) (hWd : Wd E K G L M H0 H locs s) (ha : K a = 1) {i x : Int32} {j : Nat} (hj : ix i (G a) = some j) (hdg : decode cc pc = .ok (.iastore, 1)) (kk : ∀ (H1 : Heap) (locs1 : List Loc), Wd E K G L (si M a j x) H0 H1 locs1 s → W p l e R s m args below meth c H1 locs1 0 0 Q (F0 m (pc + 1) ls rest)) : W p l e R s m args below meth c H locs 0 0 Q (F0 m pc ls (.int x :: .int i :: .ref a :: rest)) := by
  have h0 : K a ≠ 0 := by rw [ha]; decide
  obtain ⟨q, hq⟩ := pool hWd h0
  have hq0 := hq
  rw [enc1 ha] at hq
  obtain ⟨h1, rfl⟩ := ixE hj
  exact va_iast hX.1 hX.2.1 hWd.2.2.2.1 hWd.1 hWd.2.1 hWd.2.2.1 q 0 hq rfl h1 hdg (fun H1 locs1 hP _ hS => kk H1 locs1 (moved hWd hq0 h0 (si_up (by rw [enc1 ha, si_1])) hWd.2.2.2.2.1 hP hS))
theorem r_last (hX : CallFix p m c cc nL s args (qc :: tG) own) (hWd : Wd E K G L M H0 H locs s) (ha : K a = 2) {i : Int32} {x : Int64} {j : Nat} (hj : ix i (G a) = some j) (hdg : decode cc pc = .ok (.lastore, 1)) (kk : ∀ (H1 : Heap) (locs1 : List Loc), Wd E K G L (sl M a j x) H0 H1 locs1 s → W p l e R s m args below meth c H1 locs1 0 0 Q (F0 m (pc + 1) ls rest)) : W p l e R s m args below meth c H locs 0 0 Q (F0 m pc ls (.long x :: .int i :: .ref a :: rest)) := by
  have h0 : K a ≠ 0 := by rw [ha]; decide
  obtain ⟨q, hq⟩ := pool hWd h0
  have hq0 := hq
  rw [enc2 ha] at hq
  obtain ⟨h1, rfl⟩ := ixE hj
  exact va_last hX.1 hX.2.1 hWd.2.2.2.1 hWd.1 hWd.2.1 hWd.2.2.1 q 1 hq rfl h1 hdg (fun H1 locs1 hP _ hS => kk H1 locs1 (moved hWd hq0 h0 (sl_up (by rw [enc2 ha, sl_1])) hWd.2.2.2.2.1 hP hS))
theorem r_len (hX : CallFix p m c cc nL s args (qc :: tG) own) (hWd : Wd E K G L M H0 H locs s) {k : Nat} (ha : K a = 3) (hdg : decode cc pc = .ok (.arraylength, 1)) (kk : W p l e R s m args below meth c H locs 0 0 Q (F0 m (pc + 1) ls (.int (Int32.ofNat (G a)) :: rest))) : W p l e R s m args below meth c H locs 0 0 Q (F0 m pc ls (.ref a :: rest)) := by
  obtain ⟨q, hq⟩ := pool hWd (show K a ≠ 0 by rw [ha]; decide)
  rw [enc3 ha] at hq
  exact va_alen hX.1 hX.2.1 hWd.2.2.2.1 hWd.1 q 2 hq rfl rfl hdg kk
theorem r_get (hX : CallFix p m c cc nL s args (qc :: tG) own) {C ref : String} {T : u_T} {N ci : Nat} (hin : ∀ w ∈ u_ws C T N, w ∈ tG) (hWd : Wd E K G L M H0 H locs s) {fs : List Value} (h0 : K a ≠ 0) (he : enc E K G M a = .inr (ci, fs)) (hc : classes[ci]? = some (C, T, N)) (k : Nat) (hk : k < N) (hlink : Cond.fieldLink own idx ref (T k).2.1 (T k).2.2.1 ∈ tG) (hr : ref = (T k).1) {v : Value} (hv : fs[k]? = some v) (hdg : decode cc pc = .ok (.getfield idx, 3)) (kk : W p l e R s m args below meth c H locs 0 0 Q (F0 m (pc + 3) ls (v :: rest))) : W p l e R s m args below meth c H locs 0 0 Q (F0 m pc ls (.ref a :: rest)) := by
  obtain ⟨q, hq⟩ := pool hWd h0
  rw [he] at hq
  subst hr
  exact va_get hX.1 hX.2.1 hX.2.2.2.2 (fun w hw => List.mem_cons_of_mem _ (hin w hw)) hX.2.2.2.1 hWd.2.2.2.1 hWd.1 q hq hc k hk (hX.2.2.2.2 _ (List.mem_cons_of_mem _ hlink)) (fun _ h => h) hv hdg kk
theorem r_put (hX : CallFix p m c cc nL s args (qc :: tG) own) {C ref : String} {T : u_T} {N ci : Nat} (hin : ∀ w ∈ u_ws C T N, w ∈ tG) (ty0 : Nat → FieldType) (hty : ∀ k, k < N → parseFieldDescriptor (T k).2.2.1 = some (ty0 k)) (hnm : ∀ a, a < N → ∀ b, b < N → a ≠ b → (T a).2.1 ≠ (T b).2.1) (hWd : Wd E K G L M H0 H locs s) {fs : List Value} (h0 : K a ≠ 0) (he : enc E K G M a = .inr (ci, fs)) (hc : classes[ci]? = some (C, T, N)) (k : Nat) (hk : k < N) (hlink : Cond.fieldLink own idx ref (T k).2.1 (T k).2.2.1 ∈ tG) (hr : ref = (T k).1) (hfin : (T k).2.2.2 = false) {ty : FieldType} {v : Value} (hd : parseFieldDescriptor (T k).2.2.1 = some ty) (hn : narrow ty v = v) (hfit : fits ty v = true) (hl : k < fs.length) {M2 : Mm} (hu : va_up (enc E K G M) a (.inr (ci, fs.set k v)) = enc E K G M2) (hI : M2.2.2 = M.2.2)
    (hdg : decode cc pc = .ok (.putfield idx, 3)) (kk : ∀ (H1 : Heap) (locs1 : List Loc), Wd E K G L M2 H0 H1 locs1 s → W p l e R s m args below meth c H1 locs1 0 0 Q (F0 m (pc + 3) ls rest)) : W p l e R s m args below meth c H locs 0 0 Q (F0 m pc ls (v :: .ref a :: rest)) := by
  obtain ⟨q, hq⟩ := pool hWd h0
  have hq0 := hq
  rw [he] at hq
  subst hr
  exact va_put hX.1 hX.2.1 hX.2.2.2.2 (fun w hw => List.mem_cons_of_mem _ (hin w hw)) ty0 hty hnm hX.2.2.2.1 hWd.2.2.2.1 hWd.1 hWd.2.1 hWd.2.2.1 q hq hc k hk (hX.2.2.2.2 _ (List.mem_cons_of_mem _ hlink)) (fun _ h => h) hfin hd hn hfit hl hdg (fun H1 locs1 hP _ hS => kk H1 locs1 (moved hWd hq0 h0 hu (by rw [hI]; exact hWd.2.2.2.2.1) hP hS))
theorem g_NT_working (hX : CallFix p m c cc nL s args (qc :: tG) own) (hlink : Cond.fieldLink own idx "NibbleTrie" "working" "LNibbleTrie$Trie;" ∈ tG) (hWd : Wd E K G L M H0 H locs s) (ha : K a = 5) (hdg : decode cc pc = .ok (.getfield idx, 3)) (kk : W p l e R s m args below meth c H locs 0 0 Q (F0 m (pc + 3) ls (.ref (gr M a 0) :: rest))) : W p l e R s m args below meth c H locs 0 0 Q (F0 m pc ls (.ref a :: rest)) := r_get hX in_NT hWd (by rw [ha]; decide) (enc5 ha) rfl 0 (by decide) hlink rfl rfl hdg kk
theorem v_NT_working (hWd : Wd E K G L M H0 H locs s) (ha : K a = 5) : K (gr M a 0) = 6 := (hWd.2.2.2.2.1.2.2.2.1 a ha).1
theorem g_NT_kept (hX : CallFix p m c cc nL s args (qc :: tG) own) (hlink : Cond.fieldLink own idx "NibbleTrie" "kept" "[LNibbleTrie$Trie;" ∈ tG) (hWd : Wd E K G L M H0 H locs s) (ha : K a = 5) (hdg : decode cc pc = .ok (.getfield idx, 3)) (kk : W p l e R s m args below meth c H locs 0 0 Q (F0 m (pc + 3) ls (.ref (gr M a 1) :: rest))) : W p l e R s m args below meth c H locs 0 0 Q (F0 m pc ls (.ref a :: rest)) := r_get hX in_NT hWd (by rw [ha]; decide) (enc5 ha) rfl 1 (by decide) hlink rfl rfl hdg kk
theorem v_NT_kept (hWd : Wd E K G L M H0 H locs s) (ha : K a = 5) : K (gr M a 1) = 3 := (hWd.2.2.2.2.1.2.2.2.1 a ha).2.1
theorem g_NT_keptNow (hX : CallFix p m c cc nL s args (qc :: tG) own) (hlink : Cond.fieldLink own idx "NibbleTrie" "keptNow" "I" ∈ tG) (hWd : Wd E K G L M H0 H locs s) (ha : K a = 5) (hdg : decode cc pc = .ok (.getfield idx, 3)) (kk : W p l e R s m args below meth c H locs 0 0 Q (F0 m (pc + 3) ls (.int (gi M a 2) :: rest))) : W p l e R s m args below meth c H locs 0 0 Q (F0 m pc ls (.ref a :: rest)) := r_get hX in_NT hWd (by rw [ha]; decide) (enc5 ha) rfl 2 (by decide) hlink rfl rfl hdg kk
theorem p_NT_keptNow (hX : CallFix p m c cc nL s args (qc :: tG) own) (hlink : Cond.fieldLink own idx "NibbleTrie" "keptNow" "I" ∈ tG) (hWd : Wd E K G L M H0 H locs s) (ha : K a = 5) {x : Int32} (hdg : decode cc pc = .ok (.putfield idx, 3)) (kk : ∀ (H1 : Heap) (locs1 : List Loc), Wd E K G L (si M a 2 x) H0 H1 locs1 s → W p l e R s m args below meth c H1 locs1 0 0 Q (F0 m (pc + 3) ls rest)) : W p l e R s m args below meth c H locs 0 0 Q (F0 m pc ls (.int x :: .ref a :: rest)) := r_put hX in_NT T_NT T_NT_ok n_NT hWd (by rw [ha]; decide) (enc5 ha) rfl 2 (by decide) hlink rfl rfl (ty := .int) (by decide +kernel) rfl rfl (Nat.le_of_ble_eq_true rfl) (si_up (by rw [enc5 ha]; simp [si])) rfl hdg kk
theorem g_NT_proof (hX : CallFix p m c cc nL s args (qc :: tG) own) (hlink : Cond.fieldLink own idx "NibbleTrie" "proof" "LNibbleTrie$Proof;" ∈ tG) (hWd : Wd E K G L M H0 H locs s) (ha : K a = 5) (hdg : decode cc pc = .ok (.getfield idx, 3)) (kk : W p l e R s m args below meth c H locs 0 0 Q (F0 m (pc + 3) ls (.ref (gr M a 3) :: rest))) : W p l e R s m args below meth c H locs 0 0 Q (F0 m pc ls (.ref a :: rest)) := r_get hX in_NT hWd (by rw [ha]; decide) (enc5 ha) rfl 3 (by decide) hlink rfl rfl hdg kk
theorem v_NT_proof (hWd : Wd E K G L M H0 H locs s) (ha : K a = 5) : K (gr M a 3) = 8 := (hWd.2.2.2.2.1.2.2.2.1 a ha).2.2
theorem g_TR_map (hX : CallFix p m c cc nL s args (qc :: tG) own) (hlink : Cond.fieldLink own idx "NibbleTrie$Trie" "map" "LNibbleTrie$PathMap;" ∈ tG) (hWd : Wd E K G L M H0 H locs s) (ha : K a = 6) (hdg : decode cc pc = .ok (.getfield idx, 3)) (kk : W p l e R s m args below meth c H locs 0 0 Q (F0 m (pc + 3) ls (.ref (gr M a 0) :: rest))) : W p l e R s m args below meth c H locs 0 0 Q (F0 m pc ls (.ref a :: rest)) := r_get hX in_TR hWd (by rw [ha]; decide) (enc6 ha) rfl 0 (by decide) hlink rfl rfl hdg kk
theorem v_TR_map (hWd : Wd E K G L M H0 H locs s) (ha : K a = 6) : K (gr M a 0) = 7 := (hWd.2.2.2.2.1.2.2.2.2.1 a ha).1
theorem g_TR_leaves (hX : CallFix p m c cc nL s args (qc :: tG) own) (hlink : Cond.fieldLink own idx "NibbleTrie$Trie" "leaves" "I" ∈ tG) (hWd : Wd E K G L M H0 H locs s) (ha : K a = 6) (hdg : decode cc pc = .ok (.getfield idx, 3)) (kk : W p l e R s m args below meth c H locs 0 0 Q (F0 m (pc + 3) ls (.int (gi M a 1) :: rest))) : W p l e R s m args below meth c H locs 0 0 Q (F0 m pc ls (.ref a :: rest)) := r_get hX in_TR hWd (by rw [ha]; decide) (enc6 ha) rfl 1 (by decide) hlink rfl rfl hdg kk
theorem p_TR_leaves (hX : CallFix p m c cc nL s args (qc :: tG) own) (hlink : Cond.fieldLink own idx "NibbleTrie$Trie" "leaves" "I" ∈ tG) (hWd : Wd E K G L M H0 H locs s) (ha : K a = 6) {x : Int32} (hdg : decode cc pc = .ok (.putfield idx, 3)) (kk : ∀ (H1 : Heap) (locs1 : List Loc), Wd E K G L (si M a 1 x) H0 H1 locs1 s → W p l e R s m args below meth c H1 locs1 0 0 Q (F0 m (pc + 3) ls rest)) : W p l e R s m args below meth c H locs 0 0 Q (F0 m pc ls (.int x :: .ref a :: rest)) := r_put hX in_TR T_TR T_TR_ok n_TR hWd (by rw [ha]; decide) (enc6 ha) rfl 1 (by decide) hlink rfl rfl (ty := .int) (by decide +kernel) rfl rfl (Nat.le_of_ble_eq_true rfl) (si_up (by rw [enc6 ha]; simp [si])) rfl hdg kk
theorem g_TR_extensions (hX : CallFix p m c cc nL s args (qc :: tG) own) (hlink : Cond.fieldLink own idx "NibbleTrie$Trie" "extensions" "I" ∈ tG) (hWd : Wd E K G L M H0 H locs s) (ha : K a = 6) (hdg : decode cc pc = .ok (.getfield idx, 3)) (kk : W p l e R s m args below meth c H locs 0 0 Q (F0 m (pc + 3) ls (.int (gi M a 2) :: rest))) : W p l e R s m args below meth c H locs 0 0 Q (F0 m pc ls (.ref a :: rest)) := r_get hX in_TR hWd (by rw [ha]; decide) (enc6 ha) rfl 2 (by decide) hlink rfl rfl hdg kk
theorem p_TR_extensions (hX : CallFix p m c cc nL s args (qc :: tG) own) (hlink : Cond.fieldLink own idx "NibbleTrie$Trie" "extensions" "I" ∈ tG) (hWd : Wd E K G L M H0 H locs s) (ha : K a = 6) {x : Int32} (hdg : decode cc pc = .ok (.putfield idx, 3)) (kk : ∀ (H1 : Heap) (locs1 : List Loc), Wd E K G L (si M a 2 x) H0 H1 locs1 s → W p l e R s m args below meth c H1 locs1 0 0 Q (F0 m (pc + 3) ls rest)) : W p l e R s m args below meth c H locs 0 0 Q (F0 m pc ls (.int x :: .ref a :: rest)) := r_put hX in_TR T_TR T_TR_ok n_TR hWd (by rw [ha]; decide) (enc6 ha) rfl 2 (by decide) hlink rfl rfl (ty := .int) (by decide +kernel) rfl rfl (Nat.le_of_ble_eq_true rfl) (si_up (by rw [enc6 ha]; simp [si])) rfl hdg kk
theorem g_TR_branches (hX : CallFix p m c cc nL s args (qc :: tG) own) (hlink : Cond.fieldLink own idx "NibbleTrie$Trie" "branches" "I" ∈ tG) (hWd : Wd E K G L M H0 H locs s) (ha : K a = 6) (hdg : decode cc pc = .ok (.getfield idx, 3)) (kk : W p l e R s m args below meth c H locs 0 0 Q (F0 m (pc + 3) ls (.int (gi M a 3) :: rest))) : W p l e R s m args below meth c H locs 0 0 Q (F0 m pc ls (.ref a :: rest)) := r_get hX in_TR hWd (by rw [ha]; decide) (enc6 ha) rfl 3 (by decide) hlink rfl rfl hdg kk
theorem p_TR_branches (hX : CallFix p m c cc nL s args (qc :: tG) own) (hlink : Cond.fieldLink own idx "NibbleTrie$Trie" "branches" "I" ∈ tG) (hWd : Wd E K G L M H0 H locs s) (ha : K a = 6) {x : Int32} (hdg : decode cc pc = .ok (.putfield idx, 3)) (kk : ∀ (H1 : Heap) (locs1 : List Loc), Wd E K G L (si M a 3 x) H0 H1 locs1 s → W p l e R s m args below meth c H1 locs1 0 0 Q (F0 m (pc + 3) ls rest)) : W p l e R s m args below meth c H locs 0 0 Q (F0 m pc ls (.int x :: .ref a :: rest)) := r_put hX in_TR T_TR T_TR_ok n_TR hWd (by rw [ha]; decide) (enc6 ha) rfl 3 (by decide) hlink rfl rfl (ty := .int) (by decide +kernel) rfl rfl (Nat.le_of_ble_eq_true rfl) (si_up (by rw [enc6 ha]; simp [si])) rfl hdg kk
theorem g_TR_parent (hX : CallFix p m c cc nL s args (qc :: tG) own) (hlink : Cond.fieldLink own idx "NibbleTrie$Trie" "parent" "[I" ∈ tG) (hWd : Wd E K G L M H0 H locs s) (ha : K a = 6) (hdg : decode cc pc = .ok (.getfield idx, 3)) (kk : W p l e R s m args below meth c H locs 0 0 Q (F0 m (pc + 3) ls (.ref (gr M a 4) :: rest))) : W p l e R s m args below meth c H locs 0 0 Q (F0 m pc ls (.ref a :: rest)) := r_get hX in_TR hWd (by rw [ha]; decide) (enc6 ha) rfl 4 (by decide) hlink rfl rfl hdg kk
theorem v_TR_parent (hWd : Wd E K G L M H0 H locs s) (ha : K a = 6) : K (gr M a 4) = 1 := (hWd.2.2.2.2.1.2.2.2.2.1 a ha).2.1
theorem g_TR_firstRow (hX : CallFix p m c cc nL s args (qc :: tG) own) (hlink : Cond.fieldLink own idx "NibbleTrie$Trie" "firstRow" "[I" ∈ tG) (hWd : Wd E K G L M H0 H locs s) (ha : K a = 6) (hdg : decode cc pc = .ok (.getfield idx, 3)) (kk : W p l e R s m args below meth c H locs 0 0 Q (F0 m (pc + 3) ls (.ref (gr M a 5) :: rest))) : W p l e R s m args below meth c H locs 0 0 Q (F0 m pc ls (.ref a :: rest)) := r_get hX in_TR hWd (by rw [ha]; decide) (enc6 ha) rfl 5 (by decide) hlink rfl rfl hdg kk
theorem v_TR_firstRow (hWd : Wd E K G L M H0 H locs s) (ha : K a = 6) : K (gr M a 5) = 1 := (hWd.2.2.2.2.1.2.2.2.2.1 a ha).2.2.1
theorem g_TR_endRow (hX : CallFix p m c cc nL s args (qc :: tG) own) (hlink : Cond.fieldLink own idx "NibbleTrie$Trie" "endRow" "[I" ∈ tG) (hWd : Wd E K G L M H0 H locs s) (ha : K a = 6) (hdg : decode cc pc = .ok (.getfield idx, 3)) (kk : W p l e R s m args below meth c H locs 0 0 Q (F0 m (pc + 3) ls (.ref (gr M a 6) :: rest))) : W p l e R s m args below meth c H locs 0 0 Q (F0 m pc ls (.ref a :: rest)) := r_get hX in_TR hWd (by rw [ha]; decide) (enc6 ha) rfl 6 (by decide) hlink rfl rfl hdg kk
theorem v_TR_endRow (hWd : Wd E K G L M H0 H locs s) (ha : K a = 6) : K (gr M a 6) = 1 := (hWd.2.2.2.2.1.2.2.2.2.1 a ha).2.2.2.1
theorem g_TR_depth (hX : CallFix p m c cc nL s args (qc :: tG) own) (hlink : Cond.fieldLink own idx "NibbleTrie$Trie" "depth" "[I" ∈ tG) (hWd : Wd E K G L M H0 H locs s) (ha : K a = 6) (hdg : decode cc pc = .ok (.getfield idx, 3)) (kk : W p l e R s m args below meth c H locs 0 0 Q (F0 m (pc + 3) ls (.ref (gr M a 7) :: rest))) : W p l e R s m args below meth c H locs 0 0 Q (F0 m pc ls (.ref a :: rest)) := r_get hX in_TR hWd (by rw [ha]; decide) (enc6 ha) rfl 7 (by decide) hlink rfl rfl hdg kk
theorem v_TR_depth (hWd : Wd E K G L M H0 H locs s) (ha : K a = 6) : K (gr M a 7) = 1 := (hWd.2.2.2.2.1.2.2.2.2.1 a ha).2.2.2.2.1
theorem g_TR_topReference (hX : CallFix p m c cc nL s args (qc :: tG) own) (hlink : Cond.fieldLink own idx "NibbleTrie$Trie" "topReference" "[J" ∈ tG) (hWd : Wd E K G L M H0 H locs s) (ha : K a = 6) (hdg : decode cc pc = .ok (.getfield idx, 3)) (kk : W p l e R s m args below meth c H locs 0 0 Q (F0 m (pc + 3) ls (.ref (gr M a 8) :: rest))) : W p l e R s m args below meth c H locs 0 0 Q (F0 m pc ls (.ref a :: rest)) := r_get hX in_TR hWd (by rw [ha]; decide) (enc6 ha) rfl 8 (by decide) hlink rfl rfl hdg kk
theorem v_TR_topReference (hWd : Wd E K G L M H0 H locs s) (ha : K a = 6) : K (gr M a 8) = 2 := (hWd.2.2.2.2.1.2.2.2.2.1 a ha).2.2.2.2.2.1
theorem g_TR_drafts (hX : CallFix p m c cc nL s args (qc :: tG) own) (hlink : Cond.fieldLink own idx "NibbleTrie$Trie" "drafts" "[[J" ∈ tG) (hWd : Wd E K G L M H0 H locs s) (ha : K a = 6) (hdg : decode cc pc = .ok (.getfield idx, 3)) (kk : W p l e R s m args below meth c H locs 0 0 Q (F0 m (pc + 3) ls (.ref (gr M a 9) :: rest))) : W p l e R s m args below meth c H locs 0 0 Q (F0 m pc ls (.ref a :: rest)) := r_get hX in_TR hWd (by rw [ha]; decide) (enc6 ha) rfl 9 (by decide) hlink rfl rfl hdg kk
theorem v_TR_drafts (hWd : Wd E K G L M H0 H locs s) (ha : K a = 6) : K (gr M a 9) = 4 := (hWd.2.2.2.2.1.2.2.2.2.1 a ha).2.2.2.2.2.2
theorem g_PM_paths (hX : CallFix p m c cc nL s args (qc :: tG) own) (hlink : Cond.fieldLink own idx "NibbleTrie$PathMap" "paths" "[I" ∈ tG) (hWd : Wd E K G L M H0 H locs s) (ha : K a = 7) (hdg : decode cc pc = .ok (.getfield idx, 3)) (kk : W p l e R s m args below meth c H locs 0 0 Q (F0 m (pc + 3) ls (.ref (gr M a 0) :: rest))) : W p l e R s m args below meth c H locs 0 0 Q (F0 m pc ls (.ref a :: rest)) := r_get hX in_PM hWd (by rw [ha]; decide) (enc7 ha) rfl 0 (by decide) hlink rfl rfl hdg kk
theorem v_PM_paths (hWd : Wd E K G L M H0 H locs s) (ha : K a = 7) : K (gr M a 0) = 1 := (hWd.2.2.2.2.1.2.2.2.2.2.1 a ha).1
theorem g_PM_values (hX : CallFix p m c cc nL s args (qc :: tG) own) (hlink : Cond.fieldLink own idx "NibbleTrie$PathMap" "values" "[I" ∈ tG) (hWd : Wd E K G L M H0 H locs s) (ha : K a = 7) (hdg : decode cc pc = .ok (.getfield idx, 3)) (kk : W p l e R s m args below meth c H locs 0 0 Q (F0 m (pc + 3) ls (.ref (gr M a 1) :: rest))) : W p l e R s m args below meth c H locs 0 0 Q (F0 m pc ls (.ref a :: rest)) := r_get hX in_PM hWd (by rw [ha]; decide) (enc7 ha) rfl 1 (by decide) hlink rfl rfl hdg kk
theorem v_PM_values (hWd : Wd E K G L M H0 H locs s) (ha : K a = 7) : K (gr M a 1) = 1 := (hWd.2.2.2.2.1.2.2.2.2.2.1 a ha).2
theorem g_PM_rows (hX : CallFix p m c cc nL s args (qc :: tG) own) (hlink : Cond.fieldLink own idx "NibbleTrie$PathMap" "rows" "I" ∈ tG) (hWd : Wd E K G L M H0 H locs s) (ha : K a = 7) (hdg : decode cc pc = .ok (.getfield idx, 3)) (kk : W p l e R s m args below meth c H locs 0 0 Q (F0 m (pc + 3) ls (.int (gi M a 2) :: rest))) : W p l e R s m args below meth c H locs 0 0 Q (F0 m pc ls (.ref a :: rest)) := r_get hX in_PM hWd (by rw [ha]; decide) (enc7 ha) rfl 2 (by decide) hlink rfl rfl hdg kk
theorem p_PM_rows (hX : CallFix p m c cc nL s args (qc :: tG) own) (hlink : Cond.fieldLink own idx "NibbleTrie$PathMap" "rows" "I" ∈ tG) (hWd : Wd E K G L M H0 H locs s) (ha : K a = 7) {x : Int32} (hdg : decode cc pc = .ok (.putfield idx, 3)) (kk : ∀ (H1 : Heap) (locs1 : List Loc), Wd E K G L (si M a 2 x) H0 H1 locs1 s → W p l e R s m args below meth c H1 locs1 0 0 Q (F0 m (pc + 3) ls rest)) : W p l e R s m args below meth c H locs 0 0 Q (F0 m pc ls (.int x :: .ref a :: rest)) := r_put hX in_PM T_PM T_PM_ok n_PM hWd (by rw [ha]; decide) (enc7 ha) rfl 2 (by decide) hlink rfl rfl (ty := .int) (by decide +kernel) rfl rfl (Nat.le_of_ble_eq_true rfl) (si_up (by rw [enc7 ha]; simp [si])) rfl hdg kk
theorem g_PF_words (hX : CallFix p m c cc nL s args (qc :: tG) own) (hlink : Cond.fieldLink own idx "NibbleTrie$Proof" "words" "[J" ∈ tG) (hWd : Wd E K G L M H0 H locs s) (ha : K a = 8) (hdg : decode cc pc = .ok (.getfield idx, 3)) (kk : W p l e R s m args below meth c H locs 0 0 Q (F0 m (pc + 3) ls (.ref (gr M a 0) :: rest))) : W p l e R s m args below meth c H locs 0 0 Q (F0 m pc ls (.ref a :: rest)) := r_get hX in_PF hWd (by rw [ha]; decide) (enc8 ha) rfl 0 (by decide) hlink rfl rfl hdg kk
theorem v_PF_words (hWd : Wd E K G L M H0 H locs s) (ha : K a = 8) : K (gr M a 0) = 2 := (hWd.2.2.2.2.1.2.2.2.2.2.2.1 a ha)
theorem g_PF_length (hX : CallFix p m c cc nL s args (qc :: tG) own) (hlink : Cond.fieldLink own idx "NibbleTrie$Proof" "length" "I" ∈ tG) (hWd : Wd E K G L M H0 H locs s) (ha : K a = 8) (hdg : decode cc pc = .ok (.getfield idx, 3)) (kk : W p l e R s m args below meth c H locs 0 0 Q (F0 m (pc + 3) ls (.int (gi M a 1) :: rest))) : W p l e R s m args below meth c H locs 0 0 Q (F0 m pc ls (.ref a :: rest)) := r_get hX in_PF hWd (by rw [ha]; decide) (enc8 ha) rfl 1 (by decide) hlink rfl rfl hdg kk
theorem p_PF_length (hX : CallFix p m c cc nL s args (qc :: tG) own) (hlink : Cond.fieldLink own idx "NibbleTrie$Proof" "length" "I" ∈ tG) (hWd : Wd E K G L M H0 H locs s) (ha : K a = 8) {x : Int32} (hdg : decode cc pc = .ok (.putfield idx, 3)) (kk : ∀ (H1 : Heap) (locs1 : List Loc), Wd E K G L (si M a 1 x) H0 H1 locs1 s → W p l e R s m args below meth c H1 locs1 0 0 Q (F0 m (pc + 3) ls rest)) : W p l e R s m args below meth c H locs 0 0 Q (F0 m pc ls (.int x :: .ref a :: rest)) := r_put hX in_PF T_PF T_PF_ok n_PF hWd (by rw [ha]; decide) (enc8 ha) rfl 1 (by decide) hlink rfl rfl (ty := .int) (by decide +kernel) rfl rfl (Nat.le_of_ble_eq_true rfl) (si_up (by rw [enc8 ha]; simp [si])) rfl hdg kk
theorem g_PF_state (hX : CallFix p m c cc nL s args (qc :: tG) own) (hlink : Cond.fieldLink own idx "NibbleTrie$Proof" "state" "I" ∈ tG) (hWd : Wd E K G L M H0 H locs s) (ha : K a = 8) (hdg : decode cc pc = .ok (.getfield idx, 3)) (kk : W p l e R s m args below meth c H locs 0 0 Q (F0 m (pc + 3) ls (.int (gi M a 2) :: rest))) : W p l e R s m args below meth c H locs 0 0 Q (F0 m pc ls (.ref a :: rest)) := r_get hX in_PF hWd (by rw [ha]; decide) (enc8 ha) rfl 2 (by decide) hlink rfl rfl hdg kk
theorem p_PF_state (hX : CallFix p m c cc nL s args (qc :: tG) own) (hlink : Cond.fieldLink own idx "NibbleTrie$Proof" "state" "I" ∈ tG) (hWd : Wd E K G L M H0 H locs s) (ha : K a = 8) {x : Int32} (hdg : decode cc pc = .ok (.putfield idx, 3)) (kk : ∀ (H1 : Heap) (locs1 : List Loc), Wd E K G L (si M a 2 x) H0 H1 locs1 s → W p l e R s m args below meth c H1 locs1 0 0 Q (F0 m (pc + 3) ls rest)) : W p l e R s m args below meth c H locs 0 0 Q (F0 m pc ls (.int x :: .ref a :: rest)) := r_put hX in_PF T_PF T_PF_ok n_PF hWd (by rw [ha]; decide) (enc8 ha) rfl 2 (by decide) hlink rfl rfl (ty := .int) (by decide +kernel) rfl rfl (Nat.le_of_ble_eq_true rfl) (si_up (by rw [enc8 ha]; simp [si])) rfl hdg kk
theorem g_PF_next (hX : CallFix p m c cc nL s args (qc :: tG) own) (hlink : Cond.fieldLink own idx "NibbleTrie$Proof" "next" "I" ∈ tG) (hWd : Wd E K G L M H0 H locs s) (ha : K a = 8) (hdg : decode cc pc = .ok (.getfield idx, 3)) (kk : W p l e R s m args below meth c H locs 0 0 Q (F0 m (pc + 3) ls (.int (gi M a 3) :: rest))) : W p l e R s m args below meth c H locs 0 0 Q (F0 m pc ls (.ref a :: rest)) := r_get hX in_PF hWd (by rw [ha]; decide) (enc8 ha) rfl 3 (by decide) hlink rfl rfl hdg kk
theorem p_PF_next (hX : CallFix p m c cc nL s args (qc :: tG) own) (hlink : Cond.fieldLink own idx "NibbleTrie$Proof" "next" "I" ∈ tG) (hWd : Wd E K G L M H0 H locs s) (ha : K a = 8) {x : Int32} (hdg : decode cc pc = .ok (.putfield idx, 3)) (kk : ∀ (H1 : Heap) (locs1 : List Loc), Wd E K G L (si M a 3 x) H0 H1 locs1 s → W p l e R s m args below meth c H1 locs1 0 0 Q (F0 m (pc + 3) ls rest)) : W p l e R s m args below meth c H locs 0 0 Q (F0 m pc ls (.int x :: .ref a :: rest)) := r_put hX in_PF T_PF T_PF_ok n_PF hWd (by rw [ha]; decide) (enc8 ha) rfl 3 (by decide) hlink rfl rfl (ty := .int) (by decide +kernel) rfl rfl (Nat.le_of_ble_eq_true rfl) (si_up (by rw [enc8 ha]; simp [si])) rfl hdg kk
theorem g_PF_left (hX : CallFix p m c cc nL s args (qc :: tG) own) (hlink : Cond.fieldLink own idx "NibbleTrie$Proof" "left" "I" ∈ tG) (hWd : Wd E K G L M H0 H locs s) (ha : K a = 8) (hdg : decode cc pc = .ok (.getfield idx, 3)) (kk : W p l e R s m args below meth c H locs 0 0 Q (F0 m (pc + 3) ls (.int (gi M a 4) :: rest))) : W p l e R s m args below meth c H locs 0 0 Q (F0 m pc ls (.ref a :: rest)) := r_get hX in_PF hWd (by rw [ha]; decide) (enc8 ha) rfl 4 (by decide) hlink rfl rfl hdg kk
theorem p_PF_left (hX : CallFix p m c cc nL s args (qc :: tG) own) (hlink : Cond.fieldLink own idx "NibbleTrie$Proof" "left" "I" ∈ tG) (hWd : Wd E K G L M H0 H locs s) (ha : K a = 8) {x : Int32} (hdg : decode cc pc = .ok (.putfield idx, 3)) (kk : ∀ (H1 : Heap) (locs1 : List Loc), Wd E K G L (si M a 4 x) H0 H1 locs1 s → W p l e R s m args below meth c H1 locs1 0 0 Q (F0 m (pc + 3) ls rest)) : W p l e R s m args below meth c H locs 0 0 Q (F0 m pc ls (.int x :: .ref a :: rest)) := r_put hX in_PF T_PF T_PF_ok n_PF hWd (by rw [ha]; decide) (enc8 ha) rfl 4 (by decide) hlink rfl rfl (ty := .int) (by decide +kernel) rfl rfl (Nat.le_of_ble_eq_true rfl) (si_up (by rw [enc8 ha]; simp [si])) rfl hdg kk
theorem g_PF_reference (hX : CallFix p m c cc nL s args (qc :: tG) own) (hlink : Cond.fieldLink own idx "NibbleTrie$Proof" "reference" "I" ∈ tG) (hWd : Wd E K G L M H0 H locs s) (ha : K a = 8) (hdg : decode cc pc = .ok (.getfield idx, 3)) (kk : W p l e R s m args below meth c H locs 0 0 Q (F0 m (pc + 3) ls (.int (gi M a 5) :: rest))) : W p l e R s m args below meth c H locs 0 0 Q (F0 m pc ls (.ref a :: rest)) := r_get hX in_PF hWd (by rw [ha]; decide) (enc8 ha) rfl 5 (by decide) hlink rfl rfl hdg kk
theorem p_PF_reference (hX : CallFix p m c cc nL s args (qc :: tG) own) (hlink : Cond.fieldLink own idx "NibbleTrie$Proof" "reference" "I" ∈ tG) (hWd : Wd E K G L M H0 H locs s) (ha : K a = 8) {x : Int32} (hdg : decode cc pc = .ok (.putfield idx, 3)) (kk : ∀ (H1 : Heap) (locs1 : List Loc), Wd E K G L (si M a 5 x) H0 H1 locs1 s → W p l e R s m args below meth c H1 locs1 0 0 Q (F0 m (pc + 3) ls rest)) : W p l e R s m args below meth c H locs 0 0 Q (F0 m pc ls (.int x :: .ref a :: rest)) := r_put hX in_PF T_PF T_PF_ok n_PF hWd (by rw [ha]; decide) (enc8 ha) rfl 5 (by decide) hlink rfl rfl (ty := .int) (by decide +kernel) rfl rfl (Nat.le_of_ble_eq_true rfl) (si_up (by rw [enc8 ha]; simp [si])) rfl hdg kk
theorem g_PF_referenceWords (hX : CallFix p m c cc nL s args (qc :: tG) own) (hlink : Cond.fieldLink own idx "NibbleTrie$Proof" "referenceWords" "I" ∈ tG) (hWd : Wd E K G L M H0 H locs s) (ha : K a = 8) (hdg : decode cc pc = .ok (.getfield idx, 3)) (kk : W p l e R s m args below meth c H locs 0 0 Q (F0 m (pc + 3) ls (.int (gi M a 6) :: rest))) : W p l e R s m args below meth c H locs 0 0 Q (F0 m pc ls (.ref a :: rest)) := r_get hX in_PF hWd (by rw [ha]; decide) (enc8 ha) rfl 6 (by decide) hlink rfl rfl hdg kk
theorem p_PF_referenceWords (hX : CallFix p m c cc nL s args (qc :: tG) own) (hlink : Cond.fieldLink own idx "NibbleTrie$Proof" "referenceWords" "I" ∈ tG) (hWd : Wd E K G L M H0 H locs s) (ha : K a = 8) {x : Int32} (hdg : decode cc pc = .ok (.putfield idx, 3)) (kk : ∀ (H1 : Heap) (locs1 : List Loc), Wd E K G L (si M a 6 x) H0 H1 locs1 s → W p l e R s m args below meth c H1 locs1 0 0 Q (F0 m (pc + 3) ls rest)) : W p l e R s m args below meth c H locs 0 0 Q (F0 m pc ls (.int x :: .ref a :: rest)) := r_put hX in_PF T_PF T_PF_ok n_PF hWd (by rw [ha]; decide) (enc8 ha) rfl 6 (by decide) hlink rfl rfl (ty := .int) (by decide +kernel) rfl rfl (Nat.le_of_ble_eq_true rfl) (si_up (by rw [enc8 ha]; simp [si])) rfl hdg kk
theorem g_PF_shown (hX : CallFix p m c cc nL s args (qc :: tG) own) (hlink : Cond.fieldLink own idx "NibbleTrie$Proof" "shown" "J" ∈ tG) (hWd : Wd E K G L M H0 H locs s) (ha : K a = 8) (hdg : decode cc pc = .ok (.getfield idx, 3)) (kk : W p l e R s m args below meth c H locs 0 0 Q (F0 m (pc + 3) ls (.long (gl M a 7) :: rest))) : W p l e R s m args below meth c H locs 0 0 Q (F0 m pc ls (.ref a :: rest)) := r_get hX in_PF hWd (by rw [ha]; decide) (enc8 ha) rfl 7 (by decide) hlink rfl rfl hdg kk
theorem p_PF_shown (hX : CallFix p m c cc nL s args (qc :: tG) own) (hlink : Cond.fieldLink own idx "NibbleTrie$Proof" "shown" "J" ∈ tG) (hWd : Wd E K G L M H0 H locs s) (ha : K a = 8) {x : Int64} (hdg : decode cc pc = .ok (.putfield idx, 3)) (kk : ∀ (H1 : Heap) (locs1 : List Loc), Wd E K G L (sl M a 7 x) H0 H1 locs1 s → W p l e R s m args below meth c H1 locs1 0 0 Q (F0 m (pc + 3) ls rest)) : W p l e R s m args below meth c H locs 0 0 Q (F0 m pc ls (.long x :: .ref a :: rest)) := r_put hX in_PF T_PF T_PF_ok n_PF hWd (by rw [ha]; decide) (enc8 ha) rfl 7 (by decide) hlink rfl rfl (ty := .long) (by decide +kernel) rfl rfl (Nat.le_of_ble_eq_true rfl) (sl_up (by rw [enc8 ha]; simp [sl])) rfl hdg kk
theorem g_MO_keys (hX : CallFix p m c cc nL s args (qc :: tG) own) (hlink : Cond.fieldLink own idx "NibbleTrieModel" "keys" "[I" ∈ tG) (hWd : Wd E K G L M H0 H locs s) (ha : K a = 9) (hdg : decode cc pc = .ok (.getfield idx, 3)) (kk : W p l e R s m args below meth c H locs 0 0 Q (F0 m (pc + 3) ls (.ref (gr M a 0) :: rest))) : W p l e R s m args below meth c H locs 0 0 Q (F0 m pc ls (.ref a :: rest)) := r_get hX in_MO hWd (by rw [ha]; decide) (enc9 ha) rfl 0 (by decide) hlink rfl rfl hdg kk
theorem v_MO_keys (hWd : Wd E K G L M H0 H locs s) (ha : K a = 9) : K (gr M a 0) = 1 := (hWd.2.2.2.2.1.2.2.2.2.2.2.2 a ha).1
theorem g_MO_values (hX : CallFix p m c cc nL s args (qc :: tG) own) (hlink : Cond.fieldLink own idx "NibbleTrieModel" "values" "[I" ∈ tG) (hWd : Wd E K G L M H0 H locs s) (ha : K a = 9) (hdg : decode cc pc = .ok (.getfield idx, 3)) (kk : W p l e R s m args below meth c H locs 0 0 Q (F0 m (pc + 3) ls (.ref (gr M a 1) :: rest))) : W p l e R s m args below meth c H locs 0 0 Q (F0 m pc ls (.ref a :: rest)) := r_get hX in_MO hWd (by rw [ha]; decide) (enc9 ha) rfl 1 (by decide) hlink rfl rfl hdg kk
theorem v_MO_values (hWd : Wd E K G L M H0 H locs s) (ha : K a = 9) : K (gr M a 1) = 1 := (hWd.2.2.2.2.1.2.2.2.2.2.2.2 a ha).2.1
theorem g_MO_sizes (hX : CallFix p m c cc nL s args (qc :: tG) own) (hlink : Cond.fieldLink own idx "NibbleTrieModel" "sizes" "[I" ∈ tG) (hWd : Wd E K G L M H0 H locs s) (ha : K a = 9) (hdg : decode cc pc = .ok (.getfield idx, 3)) (kk : W p l e R s m args below meth c H locs 0 0 Q (F0 m (pc + 3) ls (.ref (gr M a 2) :: rest))) : W p l e R s m args below meth c H locs 0 0 Q (F0 m pc ls (.ref a :: rest)) := r_get hX in_MO hWd (by rw [ha]; decide) (enc9 ha) rfl 2 (by decide) hlink rfl rfl hdg kk
theorem v_MO_sizes (hWd : Wd E K G L M H0 H locs s) (ha : K a = 9) : K (gr M a 2) = 1 := (hWd.2.2.2.2.1.2.2.2.2.2.2.2 a ha).2.2.1
theorem g_MO_kept (hX : CallFix p m c cc nL s args (qc :: tG) own) (hlink : Cond.fieldLink own idx "NibbleTrieModel" "kept" "I" ∈ tG) (hWd : Wd E K G L M H0 H locs s) (ha : K a = 9) (hdg : decode cc pc = .ok (.getfield idx, 3)) (kk : W p l e R s m args below meth c H locs 0 0 Q (F0 m (pc + 3) ls (.int (gi M a 3) :: rest))) : W p l e R s m args below meth c H locs 0 0 Q (F0 m pc ls (.ref a :: rest)) := r_get hX in_MO hWd (by rw [ha]; decide) (enc9 ha) rfl 3 (by decide) hlink rfl rfl hdg kk
theorem p_MO_kept (hX : CallFix p m c cc nL s args (qc :: tG) own) (hlink : Cond.fieldLink own idx "NibbleTrieModel" "kept" "I" ∈ tG) (hWd : Wd E K G L M H0 H locs s) (ha : K a = 9) {x : Int32} (hdg : decode cc pc = .ok (.putfield idx, 3)) (kk : ∀ (H1 : Heap) (locs1 : List Loc), Wd E K G L (si M a 3 x) H0 H1 locs1 s → W p l e R s m args below meth c H1 locs1 0 0 Q (F0 m (pc + 3) ls rest)) : W p l e R s m args below meth c H locs 0 0 Q (F0 m pc ls (.int x :: .ref a :: rest)) := r_put hX in_MO T_MO T_MO_ok n_MO hWd (by rw [ha]; decide) (enc9 ha) rfl 3 (by decide) hlink rfl rfl (ty := .int) (by decide +kernel) rfl rfl (Nat.le_of_ble_eq_true rfl) (si_up (by rw [enc9 ha]; simp [si])) rfl hdg kk
theorem g_MO_many (hX : CallFix p m c cc nL s args (qc :: tG) own) (hlink : Cond.fieldLink own idx "NibbleTrieModel" "many" "I" ∈ tG) (hWd : Wd E K G L M H0 H locs s) (ha : K a = 9) (hdg : decode cc pc = .ok (.getfield idx, 3)) (kk : W p l e R s m args below meth c H locs 0 0 Q (F0 m (pc + 3) ls (.int (gi M a 4) :: rest))) : W p l e R s m args below meth c H locs 0 0 Q (F0 m pc ls (.ref a :: rest)) := r_get hX in_MO hWd (by rw [ha]; decide) (enc9 ha) rfl 4 (by decide) hlink rfl rfl hdg kk
theorem p_MO_many (hX : CallFix p m c cc nL s args (qc :: tG) own) (hlink : Cond.fieldLink own idx "NibbleTrieModel" "many" "I" ∈ tG) (hWd : Wd E K G L M H0 H locs s) (ha : K a = 9) {x : Int32} (hdg : decode cc pc = .ok (.putfield idx, 3)) (kk : ∀ (H1 : Heap) (locs1 : List Loc), Wd E K G L (si M a 4 x) H0 H1 locs1 s → W p l e R s m args below meth c H1 locs1 0 0 Q (F0 m (pc + 3) ls rest)) : W p l e R s m args below meth c H locs 0 0 Q (F0 m pc ls (.int x :: .ref a :: rest)) := r_put hX in_MO T_MO T_MO_ok n_MO hWd (by rw [ha]; decide) (enc9 ha) rfl 4 (by decide) hlink rfl rfl (ty := .int) (by decide +kernel) rfl rfl (Nat.le_of_ble_eq_true rfl) (si_up (by rw [enc9 ha]; simp [si])) rfl hdg kk
theorem g_MO_branch (hX : CallFix p m c cc nL s args (qc :: tG) own) (hlink : Cond.fieldLink own idx "NibbleTrieModel" "branch" "[I" ∈ tG) (hWd : Wd E K G L M H0 H locs s) (ha : K a = 9) (hdg : decode cc pc = .ok (.getfield idx, 3)) (kk : W p l e R s m args below meth c H locs 0 0 Q (F0 m (pc + 3) ls (.ref (gr M a 5) :: rest))) : W p l e R s m args below meth c H locs 0 0 Q (F0 m pc ls (.ref a :: rest)) := r_get hX in_MO hWd (by rw [ha]; decide) (enc9 ha) rfl 5 (by decide) hlink rfl rfl hdg kk
theorem v_MO_branch (hWd : Wd E K G L M H0 H locs s) (ha : K a = 9) : K (gr M a 5) = 1 := (hWd.2.2.2.2.1.2.2.2.2.2.2.2 a ha).2.2.2.1
theorem g_MO_digest (hX : CallFix p m c cc nL s args (qc :: tG) own) (hlink : Cond.fieldLink own idx "NibbleTrieModel" "digest" "[J" ∈ tG) (hWd : Wd E K G L M H0 H locs s) (ha : K a = 9) (hdg : decode cc pc = .ok (.getfield idx, 3)) (kk : W p l e R s m args below meth c H locs 0 0 Q (F0 m (pc + 3) ls (.ref (gr M a 6) :: rest))) : W p l e R s m args below meth c H locs 0 0 Q (F0 m pc ls (.ref a :: rest)) := r_get hX in_MO hWd (by rw [ha]; decide) (enc9 ha) rfl 6 (by decide) hlink rfl rfl hdg kk
theorem v_MO_digest (hWd : Wd E K G L M H0 H locs s) (ha : K a = 9) : K (gr M a 6) = 2 := (hWd.2.2.2.2.1.2.2.2.2.2.2.2 a ha).2.2.2.2.1
theorem g_MO_branches (hX : CallFix p m c cc nL s args (qc :: tG) own) (hlink : Cond.fieldLink own idx "NibbleTrieModel" "branches" "[I" ∈ tG) (hWd : Wd E K G L M H0 H locs s) (ha : K a = 9) (hdg : decode cc pc = .ok (.getfield idx, 3)) (kk : W p l e R s m args below meth c H locs 0 0 Q (F0 m (pc + 3) ls (.ref (gr M a 7) :: rest))) : W p l e R s m args below meth c H locs 0 0 Q (F0 m pc ls (.ref a :: rest)) := r_get hX in_MO hWd (by rw [ha]; decide) (enc9 ha) rfl 7 (by decide) hlink rfl rfl hdg kk
theorem v_MO_branches (hWd : Wd E K G L M H0 H locs s) (ha : K a = 9) : K (gr M a 7) = 1 := (hWd.2.2.2.2.1.2.2.2.2.2.2.2 a ha).2.2.2.2.2.1
theorem g_MO_words (hX : CallFix p m c cc nL s args (qc :: tG) own) (hlink : Cond.fieldLink own idx "NibbleTrieModel" "words" "[J" ∈ tG) (hWd : Wd E K G L M H0 H locs s) (ha : K a = 9) (hdg : decode cc pc = .ok (.getfield idx, 3)) (kk : W p l e R s m args below meth c H locs 0 0 Q (F0 m (pc + 3) ls (.ref (gr M a 8) :: rest))) : W p l e R s m args below meth c H locs 0 0 Q (F0 m pc ls (.ref a :: rest)) := r_get hX in_MO hWd (by rw [ha]; decide) (enc9 ha) rfl 8 (by decide) hlink rfl rfl hdg kk
theorem v_MO_words (hWd : Wd E K G L M H0 H locs s) (ha : K a = 9) : K (gr M a 8) = 2 := (hWd.2.2.2.2.1.2.2.2.2.2.2.2 a ha).2.2.2.2.2.2.1
theorem g_MO_length (hX : CallFix p m c cc nL s args (qc :: tG) own) (hlink : Cond.fieldLink own idx "NibbleTrieModel" "length" "I" ∈ tG) (hWd : Wd E K G L M H0 H locs s) (ha : K a = 9) (hdg : decode cc pc = .ok (.getfield idx, 3)) (kk : W p l e R s m args below meth c H locs 0 0 Q (F0 m (pc + 3) ls (.int (gi M a 9) :: rest))) : W p l e R s m args below meth c H locs 0 0 Q (F0 m pc ls (.ref a :: rest)) := r_get hX in_MO hWd (by rw [ha]; decide) (enc9 ha) rfl 9 (by decide) hlink rfl rfl hdg kk
theorem p_MO_length (hX : CallFix p m c cc nL s args (qc :: tG) own) (hlink : Cond.fieldLink own idx "NibbleTrieModel" "length" "I" ∈ tG) (hWd : Wd E K G L M H0 H locs s) (ha : K a = 9) {x : Int32} (hdg : decode cc pc = .ok (.putfield idx, 3)) (kk : ∀ (H1 : Heap) (locs1 : List Loc), Wd E K G L (si M a 9 x) H0 H1 locs1 s → W p l e R s m args below meth c H1 locs1 0 0 Q (F0 m (pc + 3) ls rest)) : W p l e R s m args below meth c H locs 0 0 Q (F0 m pc ls (.int x :: .ref a :: rest)) := r_put hX in_MO T_MO T_MO_ok n_MO hWd (by rw [ha]; decide) (enc9 ha) rfl 9 (by decide) hlink rfl rfl (ty := .int) (by decide +kernel) rfl rfl (Nat.le_of_ble_eq_true rfl) (si_up (by rw [enc9 ha]; simp [si])) rfl hdg kk
theorem g_MO_proof (hX : CallFix p m c cc nL s args (qc :: tG) own) (hlink : Cond.fieldLink own idx "NibbleTrieModel" "proof" "[J" ∈ tG) (hWd : Wd E K G L M H0 H locs s) (ha : K a = 9) (hdg : decode cc pc = .ok (.getfield idx, 3)) (kk : W p l e R s m args below meth c H locs 0 0 Q (F0 m (pc + 3) ls (.ref (gr M a 10) :: rest))) : W p l e R s m args below meth c H locs 0 0 Q (F0 m pc ls (.ref a :: rest)) := r_get hX in_MO hWd (by rw [ha]; decide) (enc9 ha) rfl 10 (by decide) hlink rfl rfl hdg kk
theorem v_MO_proof (hWd : Wd E K G L M H0 H locs s) (ha : K a = 9) : K (gr M a 10) = 2 := (hWd.2.2.2.2.1.2.2.2.2.2.2.2 a ha).2.2.2.2.2.2.2
theorem g_MO_proofLength (hX : CallFix p m c cc nL s args (qc :: tG) own) (hlink : Cond.fieldLink own idx "NibbleTrieModel" "proofLength" "I" ∈ tG) (hWd : Wd E K G L M H0 H locs s) (ha : K a = 9) (hdg : decode cc pc = .ok (.getfield idx, 3)) (kk : W p l e R s m args below meth c H locs 0 0 Q (F0 m (pc + 3) ls (.int (gi M a 11) :: rest))) : W p l e R s m args below meth c H locs 0 0 Q (F0 m pc ls (.ref a :: rest)) := r_get hX in_MO hWd (by rw [ha]; decide) (enc9 ha) rfl 11 (by decide) hlink rfl rfl hdg kk
theorem p_MO_proofLength (hX : CallFix p m c cc nL s args (qc :: tG) own) (hlink : Cond.fieldLink own idx "NibbleTrieModel" "proofLength" "I" ∈ tG) (hWd : Wd E K G L M H0 H locs s) (ha : K a = 9) {x : Int32} (hdg : decode cc pc = .ok (.putfield idx, 3)) (kk : ∀ (H1 : Heap) (locs1 : List Loc), Wd E K G L (si M a 11 x) H0 H1 locs1 s → W p l e R s m args below meth c H1 locs1 0 0 Q (F0 m (pc + 3) ls rest)) : W p l e R s m args below meth c H locs 0 0 Q (F0 m pc ls (.int x :: .ref a :: rest)) := r_put hX in_MO T_MO T_MO_ok n_MO hWd (by rw [ha]; decide) (enc9 ha) rfl 11 (by decide) hlink rfl rfl (ty := .int) (by decide +kernel) rfl rfl (Nat.le_of_ble_eq_true rfl) (si_up (by rw [enc9 ha]; simp [si])) rfl hdg kk
theorem g_MO_at (hX : CallFix p m c cc nL s args (qc :: tG) own) (hlink : Cond.fieldLink own idx "NibbleTrieModel" "at" "I" ∈ tG) (hWd : Wd E K G L M H0 H locs s) (ha : K a = 9) (hdg : decode cc pc = .ok (.getfield idx, 3)) (kk : W p l e R s m args below meth c H locs 0 0 Q (F0 m (pc + 3) ls (.int (gi M a 12) :: rest))) : W p l e R s m args below meth c H locs 0 0 Q (F0 m pc ls (.ref a :: rest)) := r_get hX in_MO hWd (by rw [ha]; decide) (enc9 ha) rfl 12 (by decide) hlink rfl rfl hdg kk
theorem p_MO_at (hX : CallFix p m c cc nL s args (qc :: tG) own) (hlink : Cond.fieldLink own idx "NibbleTrieModel" "at" "I" ∈ tG) (hWd : Wd E K G L M H0 H locs s) (ha : K a = 9) {x : Int32} (hdg : decode cc pc = .ok (.putfield idx, 3)) (kk : ∀ (H1 : Heap) (locs1 : List Loc), Wd E K G L (si M a 12 x) H0 H1 locs1 s → W p l e R s m args below meth c H1 locs1 0 0 Q (F0 m (pc + 3) ls rest)) : W p l e R s m args below meth c H locs 0 0 Q (F0 m pc ls (.int x :: .ref a :: rest)) := r_put hX in_MO T_MO T_MO_ok n_MO hWd (by rw [ha]; decide) (enc9 ha) rfl 12 (by decide) hlink rfl rfl (ty := .int) (by decide +kernel) rfl rfl (Nat.le_of_ble_eq_true rfl) (si_up (by rw [enc9 ha]; simp [si])) rfl hdg kk
theorem g_MO_first (hX : CallFix p m c cc nL s args (qc :: tG) own) (hlink : Cond.fieldLink own idx "NibbleTrieModel" "first" "J" ∈ tG) (hWd : Wd E K G L M H0 H locs s) (ha : K a = 9) (hdg : decode cc pc = .ok (.getfield idx, 3)) (kk : W p l e R s m args below meth c H locs 0 0 Q (F0 m (pc + 3) ls (.long (gl M a 13) :: rest))) : W p l e R s m args below meth c H locs 0 0 Q (F0 m pc ls (.ref a :: rest)) := r_get hX in_MO hWd (by rw [ha]; decide) (enc9 ha) rfl 13 (by decide) hlink rfl rfl hdg kk
theorem p_MO_first (hX : CallFix p m c cc nL s args (qc :: tG) own) (hlink : Cond.fieldLink own idx "NibbleTrieModel" "first" "J" ∈ tG) (hWd : Wd E K G L M H0 H locs s) (ha : K a = 9) {x : Int64} (hdg : decode cc pc = .ok (.putfield idx, 3)) (kk : ∀ (H1 : Heap) (locs1 : List Loc), Wd E K G L (sl M a 13 x) H0 H1 locs1 s → W p l e R s m args below meth c H1 locs1 0 0 Q (F0 m (pc + 3) ls rest)) : W p l e R s m args below meth c H locs 0 0 Q (F0 m pc ls (.long x :: .ref a :: rest)) := r_put hX in_MO T_MO T_MO_ok n_MO hWd (by rw [ha]; decide) (enc9 ha) rfl 13 (by decide) hlink rfl rfl (ty := .long) (by decide +kernel) rfl rfl (Nat.le_of_ble_eq_true rfl) (sl_up (by rw [enc9 ha]; simp [sl])) rfl hdg kk
theorem g_MO_second (hX : CallFix p m c cc nL s args (qc :: tG) own) (hlink : Cond.fieldLink own idx "NibbleTrieModel" "second" "J" ∈ tG) (hWd : Wd E K G L M H0 H locs s) (ha : K a = 9) (hdg : decode cc pc = .ok (.getfield idx, 3)) (kk : W p l e R s m args below meth c H locs 0 0 Q (F0 m (pc + 3) ls (.long (gl M a 14) :: rest))) : W p l e R s m args below meth c H locs 0 0 Q (F0 m pc ls (.ref a :: rest)) := r_get hX in_MO hWd (by rw [ha]; decide) (enc9 ha) rfl 14 (by decide) hlink rfl rfl hdg kk
theorem p_MO_second (hX : CallFix p m c cc nL s args (qc :: tG) own) (hlink : Cond.fieldLink own idx "NibbleTrieModel" "second" "J" ∈ tG) (hWd : Wd E K G L M H0 H locs s) (ha : K a = 9) {x : Int64} (hdg : decode cc pc = .ok (.putfield idx, 3)) (kk : ∀ (H1 : Heap) (locs1 : List Loc), Wd E K G L (sl M a 14 x) H0 H1 locs1 s → W p l e R s m args below meth c H1 locs1 0 0 Q (F0 m (pc + 3) ls rest)) : W p l e R s m args below meth c H locs 0 0 Q (F0 m pc ls (.long x :: .ref a :: rest)) := r_put hX in_MO T_MO T_MO_ok n_MO hWd (by rw [ha]; decide) (enc9 ha) rfl 14 (by decide) hlink rfl rfl (ty := .long) (by decide +kernel) rfl rfl (Nat.le_of_ble_eq_true rfl) (sl_up (by rw [enc9 ha]; simp [sl])) rfl hdg kk
theorem g_MO_count (hX : CallFix p m c cc nL s args (qc :: tG) own) (hlink : Cond.fieldLink own idx "NibbleTrieModel" "count" "I" ∈ tG) (hWd : Wd E K G L M H0 H locs s) (ha : K a = 9) (hdg : decode cc pc = .ok (.getfield idx, 3)) (kk : W p l e R s m args below meth c H locs 0 0 Q (F0 m (pc + 3) ls (.int (gi M a 15) :: rest))) : W p l e R s m args below meth c H locs 0 0 Q (F0 m pc ls (.ref a :: rest)) := r_get hX in_MO hWd (by rw [ha]; decide) (enc9 ha) rfl 15 (by decide) hlink rfl rfl hdg kk
theorem p_MO_count (hX : CallFix p m c cc nL s args (qc :: tG) own) (hlink : Cond.fieldLink own idx "NibbleTrieModel" "count" "I" ∈ tG) (hWd : Wd E K G L M H0 H locs s) (ha : K a = 9) {x : Int32} (hdg : decode cc pc = .ok (.putfield idx, 3)) (kk : ∀ (H1 : Heap) (locs1 : List Loc), Wd E K G L (si M a 15 x) H0 H1 locs1 s → W p l e R s m args below meth c H1 locs1 0 0 Q (F0 m (pc + 3) ls rest)) : W p l e R s m args below meth c H locs 0 0 Q (F0 m pc ls (.int x :: .ref a :: rest)) := r_put hX in_MO T_MO T_MO_ok n_MO hWd (by rw [ha]; decide) (enc9 ha) rfl 15 (by decide) hlink rfl rfl (ty := .int) (by decide +kernel) rfl rfl (Nat.le_of_ble_eq_true rfl) (si_up (by rw [enc9 ha]; simp [si])) rfl hdg kk
theorem g_MO_path (hX : CallFix p m c cc nL s args (qc :: tG) own) (hlink : Cond.fieldLink own idx "NibbleTrieModel" "path" "I" ∈ tG) (hWd : Wd E K G L M H0 H locs s) (ha : K a = 9) (hdg : decode cc pc = .ok (.getfield idx, 3)) (kk : W p l e R s m args below meth c H locs 0 0 Q (F0 m (pc + 3) ls (.int (gi M a 16) :: rest))) : W p l e R s m args below meth c H locs 0 0 Q (F0 m pc ls (.ref a :: rest)) := r_get hX in_MO hWd (by rw [ha]; decide) (enc9 ha) rfl 16 (by decide) hlink rfl rfl hdg kk
theorem p_MO_path (hX : CallFix p m c cc nL s args (qc :: tG) own) (hlink : Cond.fieldLink own idx "NibbleTrieModel" "path" "I" ∈ tG) (hWd : Wd E K G L M H0 H locs s) (ha : K a = 9) {x : Int32} (hdg : decode cc pc = .ok (.putfield idx, 3)) (kk : ∀ (H1 : Heap) (locs1 : List Loc), Wd E K G L (si M a 16 x) H0 H1 locs1 s → W p l e R s m args below meth c H1 locs1 0 0 Q (F0 m (pc + 3) ls rest)) : W p l e R s m args below meth c H locs 0 0 Q (F0 m pc ls (.int x :: .ref a :: rest)) := r_put hX in_MO T_MO T_MO_ok n_MO hWd (by rw [ha]; decide) (enc9 ha) rfl 16 (by decide) hlink rfl rfl (ty := .int) (by decide +kernel) rfl rfl (Nat.le_of_ble_eq_true rfl) (si_up (by rw [enc9 ha]; simp [si])) rfl hdg kk
theorem v_tel (hWd : Wd E K G L M H0 H locs s) (ha : K a = 3) {i : Int32} {j : Nat} (hj : ix i (G a) = some j) : K (gr M a j) = 6 := by
  obtain ⟨h1, rfl⟩ := ixE hj
  exact hWd.2.2.2.2.1.2.1 a ha _ (Nat.not_le.mp fun q => h1 (Or.inr q))
theorem v_gel (hWd : Wd E K G L M H0 H locs s) (ha : K a = 4) {i : Int32} {j : Nat} (hj : ix i (G a) = some j) : K (gr M a j) = 2 := by
  obtain ⟨h1, rfl⟩ := ixE hj
  exact hWd.2.2.2.2.1.2.2.1 a ha _ (Nat.not_le.mp fun q => h1 (Or.inr q))
end ROW
end
section
/-! Rows for calls and ends: methods over the pool (Q.. of a world), methods that touch no cell (P..). -/
def QI (E : En) (K G : Nat → Nat) (L : List Nat) (sz : Nat) (v : Int32) (M : Mm) : Array Value → State → Outcome → State → Prop := va_Qi (fun r (_ : Unit) => r = v) (fun _ t => Wt E K G L M (AL L sz) t) (AL L sz)
def QZ (E : En) (K G : Nat → Nat) (L : List Nat) (sz : Nat) (v : Int32) (M : Mm) : Array Value → State → Outcome → State → Prop := va_Qi (fun r (_ : Unit) => r = v ∧ (v = 0 ∨ v = 1)) (fun _ t => Wt E K G L M (AL L sz) t) (AL L sz)
def QL (E : En) (K G : Nat → Nat) (L : List Nat) (sz : Nat) (v : Int64) (M : Mm) : Array Value → State → Outcome → State → Prop := va_Ql (fun r (_ : Unit) => r = v) (fun _ t => Wt E K G L M (AL L sz) t) (AL L sz)
def QV (E : En) (K G : Nat → Nat) (L : List Nat) (sz : Nat) (M : Mm) : Array Value → State → Outcome → State → Prop := va_Qv (fun (_ : Unit) => True) (fun _ t => Wt E K G L M (AL L sz) t) (AL L sz)
def PI (v : Int32) : Array Value → State → Outcome → State → Prop := fun _ st oc t => oc = .returned (some (.int v)) ∧ t.heap = st.heap
def PZ (v : Int32) : Array Value → State → Outcome → State → Prop := fun _ st oc t => (oc = .returned (some (.int v)) ∧ t.heap = st.heap) ∧ (v = 0 ∨ v = 1)
def PL (v : Int64) : Array Value → State → Outcome → State → Prop := fun _ st oc t => oc = .returned (some (.long v)) ∧ t.heap = st.heap
section CALL
variable {p : Program} {l : Launch} {e : Env} {R : Room} {s : State} {m : MethodId} {args : Array Value} {below : List Frame} {meth : Method} {c : Code} {H : Heap} {locs : List Loc} {Q : State → Prop} {cc : ByteArray} {pc nL : Nat} {ls : Array Slot} {rest st0 : List Value} {E : En} {K G : Nat → Nat} {L : List Nat} {M M2 : Mm} {own : String} {qc : Cond} {av : Array Value}
theorem back_wd {t : State} {H1 : Heap} {locs1 : List Loc} (hWd : Wd E K G L M s.heap H locs s) (ht : t.heap = H1) (hB : Wt E K G L M2 (AL L H.size) t) (hS : va_S (AL L s.heap.size) s.heap H1 locs1) : Wd E K G L M2 s.heap H1 locs1 s :=
  ⟨by rw [← ht]; exact hB.1, pl_at hB.2.2.1 (fun _ h => Or.inl h), hS, hWd.2.2.2.1, hB.2.2.2, hWd.2.2.2.2.2⟩
theorem kc_i {v : Int32} (hr : va_Run p l e R s m args below meth c H locs 0 0 0 0 (F0 m pc ls st0) rest (QI E K G L H.size v M2 av) (AL L H.size)) (hWd : Wd E K G L M s.heap H locs s)
    (kk : ∀ (H1 : Heap) (locs1 : List Loc), Wd E K G L M2 s.heap H1 locs1 s → W p l e R s m args below meth c H1 locs1 0 0 Q (F0 m (pc + 3) ls (.int v :: rest))) : W p l e R s m args below meth c H locs 0 0 Q (F0 m pc ls st0) := by
  refine va_calli (A1 := AL L H.size) hr hWd.2.2.1 (fun q _ h => al_le hWd.2.2.1 h) (fun q h => al_le hWd.2.2.1 h) (fun r u t H1 locs1 ht _ hp hB _ _ hS => ?_)
  subst hp
  exact kk H1 locs1 (back_wd hWd ht hB hS)
theorem kc_z {v : Int32} (hr : va_Run p l e R s m args below meth c H locs 0 0 0 0 (F0 m pc ls st0) rest (QZ E K G L H.size v M2 av) (AL L H.size)) (hWd : Wd E K G L M s.heap H locs s)
    (kk : (v = 0 ∨ v = 1) → ∀ (H1 : Heap) (locs1 : List Loc), Wd E K G L M2 s.heap H1 locs1 s → W p l e R s m args below meth c H1 locs1 0 0 Q (F0 m (pc + 3) ls (.int v :: rest))) : W p l e R s m args below meth c H locs 0 0 Q (F0 m pc ls st0) := by
  refine va_calli (A1 := AL L H.size) hr hWd.2.2.1 (fun q _ h => al_le hWd.2.2.1 h) (fun q h => al_le hWd.2.2.1 h) (fun r u t H1 locs1 ht _ hp hB _ _ hS => ?_)
  obtain ⟨hp, hz⟩ := hp
  subst hp
  exact kk hz H1 locs1 (back_wd hWd ht hB hS)
theorem kc_l {v : Int64} (hr : va_Run p l e R s m args below meth c H locs 0 0 0 0 (F0 m pc ls st0) rest (QL E K G L H.size v M2 av) (AL L H.size)) (hWd : Wd E K G L M s.heap H locs s)
    (kk : ∀ (H1 : Heap) (locs1 : List Loc), Wd E K G L M2 s.heap H1 locs1 s → W p l e R s m args below meth c H1 locs1 0 0 Q (F0 m (pc + 3) ls (.long v :: rest))) : W p l e R s m args below meth c H locs 0 0 Q (F0 m pc ls st0) := by
  refine va_calll (A1 := AL L H.size) hr hWd.2.2.1 (fun q _ h => al_le hWd.2.2.1 h) (fun q h => al_le hWd.2.2.1 h) (fun r u t H1 locs1 ht _ hp hB _ _ hS => ?_)
  subst hp
  exact kk H1 locs1 (back_wd hWd ht hB hS)
theorem kc_v (hr : va_Run p l e R s m args below meth c H locs 0 0 0 0 (F0 m pc ls st0) rest (QV E K G L H.size M2 av) (AL L H.size)) (hWd : Wd E K G L M s.heap H locs s)
    (kk : ∀ (H1 : Heap) (locs1 : List Loc), Wd E K G L M2 s.heap H1 locs1 s → W p l e R s m args below meth c H1 locs1 0 0 Q (F0 m (pc + 3) ls rest)) : W p l e R s m args below meth c H locs 0 0 Q (F0 m pc ls st0) := by
  refine va_callv (A1 := AL L H.size) hr hWd.2.2.1 (fun q _ h => al_le hWd.2.2.1 h) (fun q h => al_le hWd.2.2.1 h) (fun u t H1 locs1 ht _ _ hB _ _ hS => ?_)
  exact kk H1 locs1 (back_wd hWd ht hB hS)
theorem kp_i {v : Int32} (hr : va_Run p l e R s m args below meth c H locs 0 0 0 0 (F0 m pc ls st0) rest (PI v av) (fun _ => False))
    (kk : W p l e R s m args below meth c H locs 0 0 Q (F0 m (pc + 3) ls (.int v :: rest))) : W p l e R s m args below meth c H locs 0 0 Q (F0 m pc ls st0) := by
  intro T hT X
  obtain ⟨v, st₀, t, T', L, h0, X', hL, e1, -, ⟨hv, hh⟩, st⟩ := hr T hT X
  cases hv
  obtain ⟨t2, a1, b1⟩ := kk T' (by rw [e1, hh, h0]) (Stand.forget X' (fun q h => (hL q h).elim))
  exact ⟨t2, st t2 a1, b1⟩
theorem kp_z {v : Int32} (hr : va_Run p l e R s m args below meth c H locs 0 0 0 0 (F0 m pc ls st0) rest (PZ v av) (fun _ => False))
    (kk : (v = 0 ∨ v = 1) → W p l e R s m args below meth c H locs 0 0 Q (F0 m (pc + 3) ls (.int v :: rest))) : W p l e R s m args below meth c H locs 0 0 Q (F0 m pc ls st0) := by
  intro T hT X
  obtain ⟨v, st₀, t, T', L, h0, X', hL, e1, -, ⟨⟨hv, hh⟩, hz⟩, st⟩ := hr T hT X
  cases hv
  obtain ⟨t2, a1, b1⟩ := kk hz T' (by rw [e1, hh, h0]) (Stand.forget X' (fun q h => (hL q h).elim))
  exact ⟨t2, st t2 a1, b1⟩
theorem kp_l {v : Int64} (hr : va_Run p l e R s m args below meth c H locs 0 0 0 0 (F0 m pc ls st0) rest (PL v av) (fun _ => False))
    (kk : W p l e R s m args below meth c H locs 0 0 Q (F0 m (pc + 3) ls (.long v :: rest))) : W p l e R s m args below meth c H locs 0 0 Q (F0 m pc ls st0) := by
  intro T hT X
  obtain ⟨v, st₀, t, T', L, h0, X', hL, e1, -, ⟨hv, hh⟩, st⟩ := hr T hT X
  cases hv
  obtain ⟨t2, a1, b1⟩ := kk T' (by rw [e1, hh, h0]) (Stand.forget X' (fun q h => (hL q h).elim))
  exact ⟨t2, st t2 a1, b1⟩
theorem recvV {k : Nat} {C : String} {b ci : Nat} {q : vw_C} {fs : List Value} (hWd : Wd E K G L M s.heap H locs s) (h0 : K b ≠ 0) (he : enc E K G M b = .inr (ci, fs)) (hc : classes[ci]? = some q) (hC : q.1 = C) {As : List Value} : PreV s H C b (va_Pc (.ref b :: As) (Wp E K G L M H.size)) As := by
  obtain ⟨k, hk⟩ := pool hWd h0
  rw [he] at hk
  subst hC
  exact ⟨Wd.blind, va_recv hWd.2.2.2.1 hWd.1 hc hk, fun _ hU hW => ⟨rfl, hWd.pre hU hW⟩⟩
theorem pv_NT {b : Nat} (hWd : Wd E K G L M s.heap H locs s) (hb : K b = 5) {As : List Value} : PreV s H R_NT b (va_Pc (.ref b :: As) (Wp E K G L M H.size)) As := recvV (k := 0) hWd (by rw [hb]; decide) (enc5 hb) rfl rfl
theorem pv_TR {b : Nat} (hWd : Wd E K G L M s.heap H locs s) (hb : K b = 6) {As : List Value} : PreV s H R_TR b (va_Pc (.ref b :: As) (Wp E K G L M H.size)) As := recvV (k := 0) hWd (by rw [hb]; decide) (enc6 hb) rfl rfl
theorem pv_PM {b : Nat} (hWd : Wd E K G L M s.heap H locs s) (hb : K b = 7) {As : List Value} : PreV s H R_PM b (va_Pc (.ref b :: As) (Wp E K G L M H.size)) As := recvV (k := 0) hWd (by rw [hb]; decide) (enc7 hb) rfl rfl
theorem pv_PF {b : Nat} (hWd : Wd E K G L M s.heap H locs s) (hb : K b = 8) {As : List Value} : PreV s H R_PF b (va_Pc (.ref b :: As) (Wp E K G L M H.size)) As := recvV (k := 0) hWd (by rw [hb]; decide) (enc8 hb) rfl rfl
theorem pv_MO {b : Nat} (hWd : Wd E K G L M s.heap H locs s) (hb : K b = 9) {As : List Value} : PreV s H R_MO b (va_Pc (.ref b :: As) (Wp E K G L M H.size)) As := recvV (k := 0) hWd (by rw [hb]; decide) (enc9 hb) rfl rfl
theorem Wd.wt {t : State} (hWd : Wd E K G L M s.heap H locs s) (ht : t.heap = H) (hW : s.WarmedH t.vm) : Wt E K G L M (AL L s.heap.size) t := ⟨by rw [ht]; exact hWd.1, va_K.moved hW.alike hWd.2.2.2.1, hWd.2.1, hWd.2.2.2.2.1⟩
theorem e_iret {v : Int32} (hX : CallFix p m c cc nL s args (qc :: tG) own) (hr : meth.sig.returnType = some .int) (hlk : meth.locks = false) (hWd : Wd E K G L M s.heap H locs s) (hdg : decode cc pc = .ok (.ireturn, 1)) : W p l e R s m args below meth c H locs 0 0 (MQ below (QI E K G L s.heap.size v M) args s 0 0 (AL L s.heap.size)) (F0 m pc ls [.int v]) :=
  W.iret hX.1 hX.2.1 hr (fun t ht hW => ⟨⟨v, (), rfl, rfl, hWd.wt ht hW⟩, hWd.2.2.1.F ht⟩) hWd.2.2.1.2.2 hdg hlk
theorem e_zret {v : Int32} (hX : CallFix p m c cc nL s args (qc :: tG) own) (hr : meth.sig.returnType = some .boolean) (hlk : meth.locks = false) (hWd : Wd E K G L M s.heap H locs s) (hz : v = 0 ∨ v = 1) (hdg : decode cc pc = .ok (.ireturn, 1)) : W p l e R s m args below meth c H locs 0 0 (MQ below (QZ E K G L s.heap.size v M) args s 0 0 (AL L s.heap.size)) (F0 m pc ls [.int v]) :=
  W.zret hX.1 hX.2.1 hr (by rcases hz with rfl | rfl <;> rfl) (fun t ht hW => ⟨⟨v, (), rfl, ⟨rfl, hz⟩, hWd.wt ht hW⟩, hWd.2.2.1.F ht⟩) hWd.2.2.1.2.2 hdg hlk
theorem e_lret {v : Int64} (hX : CallFix p m c cc nL s args (qc :: tG) own) (hr : meth.sig.returnType = some .long) (hlk : meth.locks = false) (hWd : Wd E K G L M s.heap H locs s) (hdg : decode cc pc = .ok (.lreturn, 1)) : W p l e R s m args below meth c H locs 0 0 (MQ below (QL E K G L s.heap.size v M) args s 0 0 (AL L s.heap.size)) (F0 m pc ls [.long v]) :=
  W.lret hX.1 hX.2.1 hr (fun t ht hW => ⟨⟨v, (), rfl, rfl, hWd.wt ht hW⟩, hWd.2.2.1.F ht⟩) hWd.2.2.1.2.2 hdg hlk
theorem e_vret (hX : CallFix p m c cc nL s args (qc :: tG) own) (hr : meth.sig.returnType = none) (hlk : meth.locks = false) (hWd : Wd E K G L M s.heap H locs s) (hdg : decode cc pc = .ok (.return_, 1)) : W p l e R s m args below meth c H locs 0 0 (MQ below (QV E K G L s.heap.size M) args s 0 0 (AL L s.heap.size)) (F0 m pc ls []) :=
  W.vret hX.1 hX.2.1 hr (fun t ht hW => ⟨⟨(), rfl, trivial, hWd.wt ht hW⟩, hWd.2.2.1.F ht⟩) hWd.2.2.1.2.2 hdg hlk
theorem p_iret {v : Int32} (hX : CallFix p m c cc nL s args (qc :: tG) own) (hr : meth.sig.returnType = some .int) (hlk : meth.locks = false) (hdg : decode cc pc = .ok (.ireturn, 1)) : W p l e R s m args below meth c s.heap [] 0 0 (MQ below (PI v) args s 0 0 (fun _ => False)) (F0 m pc ls [.int v]) :=
  W.iret hX.1 hX.2.1 hr (fun t ht _ => ⟨rfl, ht⟩) (fun q h => absurd h List.not_mem_nil) hdg hlk
theorem p_zret {v : Int32} (hX : CallFix p m c cc nL s args (qc :: tG) own) (hr : meth.sig.returnType = some .boolean) (hlk : meth.locks = false) (hz : v = 0 ∨ v = 1) (hdg : decode cc pc = .ok (.ireturn, 1)) : W p l e R s m args below meth c s.heap [] 0 0 (MQ below (PZ v) args s 0 0 (fun _ => False)) (F0 m pc ls [.int v]) :=
  W.zret hX.1 hX.2.1 hr (by rcases hz with rfl | rfl <;> rfl) (fun t ht _ => ⟨⟨rfl, ht⟩, hz⟩) (fun q h => absurd h List.not_mem_nil) hdg hlk
theorem p_lret {v : Int64} (hX : CallFix p m c cc nL s args (qc :: tG) own) (hr : meth.sig.returnType = some .long) (hlk : meth.locks = false) (hdg : decode cc pc = .ok (.lreturn, 1)) : W p l e R s m args below meth c s.heap [] 0 0 (MQ below (PL v) args s 0 0 (fun _ => False)) (F0 m pc ls [.long v]) :=
  W.lret hX.1 hX.2.1 hr (fun t ht _ => ⟨rfl, ht⟩) (fun q h => absurd h List.not_mem_nil) hdg hlk
theorem tbIn {dflt lo hi : Int} {offs : Array Int} {len : Nat} {x k : Int32} {off : Int} {tgt : Nat} {cells slots : Nat} (hexec : p.tables.exec = Jvm.exec) (hb : c.code = cc) (hdg : decode cc pc = .ok (.tableswitch dflt lo hi offs, len)) (hk : x = k) (h1 : ¬ k.toInt < lo) (h2 : ¬ hi < k.toInt) (ho : offs[(k.toInt - lo).toNat]? = some off) (ht : (pc : Int) + off = (tgt : Int))
    (kk : W p l e R s m args below meth c H locs cells slots Q (F0 m tgt ls rest)) : W p l e R s m args below meth c H locs cells slots Q (F0 m pc ls (.int x :: rest)) := by
  subst hk
  exact lv_tableIn hexec hb hdg h1 h2 ho ht kk
end CALL
theorem tbOut3 {x : Int32} (h0 : ¬ x = 0) (h1 : ¬ x = 1) (h2 : ¬ x = 2) : x.toInt < 0 ∨ 2 < x.toInt := by
  have a0 := lv_neT (a := 0) h0 (by decide)
  have a1 := lv_neT (a := 1) h1 (by decide)
  have a2 := lv_neT (a := 2) h2 (by decide)
  omega
end
section
/-! Math.min, Math.max, System.arraycopy of ints, a trie laid into the array of tries. -/
theorem t_mn : Cond.static Lib.Math.min.name ∈ tG := tg_of (i := 117) (by decide +kernel) (by decide +kernel)
theorem t_mnc : Cond.code Lib.Math.min.name Lib.Math.min.code 2 (some .int) ∈ tG := tg_of (i := 118) (by decide +kernel) (by decide +kernel)
theorem t_mx : Cond.static Lib.Math.max.name ∈ tG := tg_of (i := 120) (by decide +kernel) (by decide +kernel)
theorem t_mxc : Cond.code Lib.Math.max.name Lib.Math.max.code 2 (some .int) ∈ tG := tg_of (i := 121) (by decide +kernel) (by decide +kernel)
theorem t_ma : Cond.initialized "java/lang/Math" ∈ tG := tg_of (i := 5) (by decide +kernel) (by decide +kernel)
theorem t_sy : Cond.initialized "java/lang/System" ∈ tG := tg_of (i := 8) (by decide +kernel) (by decide +kernel)
theorem t_cps : Cond.static arraycopyName ∈ tG := tg_of (i := 288) (by decide +kernel) (by decide +kernel)
theorem t_cpn : Cond.native arraycopyName ∈ tG := tg_of (i := 289) (by decide +kernel) (by decide +kernel)
section JDK
variable {p : Program} {l : Launch} {e : Env} {R : Room} {s : State} {m : MethodId} {args : Array Value} {below : List Frame} {meth : Method} {c : Code} {H : Heap} {locs : List Loc} {Q : State → Prop} {cc : ByteArray} {pc nL : Nat} {ls : Array Slot} {rest : List Value} {E : En} {K G : Nat → Nat} {L : List Nat} {M M2 : Mm} {H0 : Heap} {a a0 : Nat} {own : String} {qc : Cond} {idx : Nat}
theorem r_mmin (hX : CallFix p m c cc nL s args (qc :: tG) own) (hlink : Cond.methodLink own idx Lib.Math.min.name ∈ tG) (hls : ls.size = nL) (hf : 1 ≤ R.frames) (hlo : (rest.map fun v => v.category).sum + 13 ≤ R.locals) {x y : Int32} (hdg : decode cc pc = .ok (.invokestatic idx, 3)) (kk : W p l e R s m args below meth c H locs 0 0 Q (F0 m (pc + 3) ls (.int (imin x y) :: rest))) : W p l e R s m args below meth c H locs 0 0 Q (F0 m pc ls (.int y :: .int x :: rest)) :=
  va_mmin hX.1 hX.2.1 (hX.2.2.1.trans hls.symm) hX.2.2.2.1 (hX.2.2.2.2 _ (List.mem_cons_of_mem _ hlink)) (hX.2.2.2.2 _ (List.mem_cons_of_mem _ t_mn)) (hX.2.2.2.2 _ (List.mem_cons_of_mem _ t_ma)) (hX.2.2.2.2 _ (List.mem_cons_of_mem _ t_mnc)) hf hlo (Nat.zero_le _) (Nat.zero_le _) hdg kk
theorem r_mmax (hX : CallFix p m c cc nL s args (qc :: tG) own) (hlink : Cond.methodLink own idx Lib.Math.max.name ∈ tG) (hls : ls.size = nL) (hf : 1 ≤ R.frames) (hlo : (rest.map fun v => v.category).sum + 13 ≤ R.locals) {x y : Int32} (hdg : decode cc pc = .ok (.invokestatic idx, 3)) (kk : W p l e R s m args below meth c H locs 0 0 Q (F0 m (pc + 3) ls (.int (imax x y) :: rest))) : W p l e R s m args below meth c H locs 0 0 Q (F0 m pc ls (.int y :: .int x :: rest)) :=
  va_mmax hX.1 hX.2.1 (hX.2.2.1.trans hls.symm) hX.2.2.2.1 (hX.2.2.2.2 _ (List.mem_cons_of_mem _ hlink)) (hX.2.2.2.2 _ (List.mem_cons_of_mem _ t_mx)) (hX.2.2.2.2 _ (List.mem_cons_of_mem _ t_ma)) (hX.2.2.2.2 _ (List.mem_cons_of_mem _ t_mxc)) hf hlo (Nat.zero_le _) (Nat.zero_le _) hdg kk
theorem r_copy (hX : CallFix p m c cc nL s args (qc :: tG) own) (hlink : Cond.methodLink own idx arraycopyName ∈ tG) (hls : ls.size = nL) (hf : 1 ≤ R.frames) (hlo : (rest.map fun v => v.category).sum + 18 ≤ R.locals) (hWd : Wd E K G L M H0 H locs s) (ha0 : K a0 = 1) (ha : K a = 1) {sp dp n : Int32} (hc : cpI G M a0 sp a dp n = some M2) (hdg : decode cc pc = .ok (.invokestatic idx, 3))
    (kk : ∀ (H1 : Heap) (locs1 : List Loc), Wd E K G L M2 H0 H1 locs1 s → W p l e R s m args below meth c H1 locs1 0 0 Q (F0 m (pc + 3) ls rest)) : W p l e R s m args below meth c H locs 0 0 Q (F0 m pc ls (.int n :: .int dp :: .ref a :: .int sp :: .ref a0 :: rest)) := by
  unfold cpI at hc
  by_cases hcc : sp < 0 ∨ dp < 0 ∨ n < 0 ∨ G a0 < sp.toNatClampNeg + n.toNatClampNeg ∨ G a < dp.toNatClampNeg + n.toNatClampNeg
  · rw [if_pos hcc] at hc; cases hc
  · rw [if_neg hcc] at hc
    have hc := Option.some.inj hc
    have h0 : K a ≠ 0 := by rw [ha]; decide
    obtain ⟨q0, hq0⟩ := pool hWd (show K a0 ≠ 0 by rw [ha0]; decide)
    obtain ⟨q, hq⟩ := pool hWd h0
    have hqq := hq
    rw [enc1 ha0] at hq0
    rw [enc1 ha] at hq
    refine va_copyi (ty := .int) hX.1 hX.2.1 (hX.2.2.1.trans hls.symm) hX.2.2.2.1 (hX.2.2.2.2 _ (List.mem_cons_of_mem _ hlink)) (hX.2.2.2.2 _ (List.mem_cons_of_mem _ t_cpn)) (hX.2.2.2.2 _ (List.mem_cons_of_mem _ t_cps)) (hX.2.2.2.2 _ (List.mem_cons_of_mem _ t_sy)) hWd.2.2.2.1 hWd.1 hWd.2.1 hWd.2.2.1 q0 q 0 0 hq0 hq rfl rfl rfl (fun z => hcc (Or.inl z)) (fun z => hcc (Or.inr (Or.inl z))) (fun z => hcc (Or.inr (Or.inr (Or.inl z)))) (Nat.not_lt.mp fun z => hcc (Or.inr (Or.inr (Or.inr (Or.inl z))))) (Nat.not_lt.mp fun z => hcc (Or.inr (Or.inr (Or.inr (Or.inr z))))) (fun _ _ => rfl) hf hlo hdg (fun H1 locs1 hP _ hS => kk H1 locs1 (moved hWd hqq h0 ?_ ?_ hP hS))
    · subst hc
      funext b
      by_cases hb : b = a
      · subst hb
        rw [va_up_self, enc1 ha]
        simp
      · rw [va_up_ne _ _ hb]
        refine Eq.symm ?_
        exact enc_eq (M := M) (by funext j; simp [hb]) rfl rfl
    · subst hc
      exact hWd.2.2.2.2.1
theorem inv_sr {j x : Nat} (h : Inv K G L M.2.2) (ha : K a = 3) (hx : K x = 6) : Inv K G L (sr M a j x).2.2 := by
  have ne : ∀ b k : Nat, K b = k → k ≠ 3 → (sr M a j x).2.2 b = M.2.2 b := fun b k hb hk => sr_ne (fun e => hk (by rw [← hb, e, ha]))
  obtain ⟨h1, h2, h3, h4, h5, h6, h7, h8⟩ := h
  refine ⟨h1, fun b hb i hi => ?_, fun b hb i hi => ?_, fun b hb => ?_, fun b hb => ?_, fun b hb => ?_, fun b hb => ?_, fun b hb => ?_⟩
  · show K (if b = a ∧ i = j then x else M.2.2 b i) = 6
    by_cases c : b = a ∧ i = j
    · rw [if_pos c]; exact hx
    · rw [if_neg c]; exact h2 b hb i hi
  · rw [ne b _ hb (by decide)]; exact h3 b hb i hi
  · rw [ne b _ hb (by decide)]; exact h4 b hb
  · rw [ne b _ hb (by decide)]; exact h5 b hb
  · rw [ne b _ hb (by decide)]; exact h6 b hb
  · rw [ne b _ hb (by decide)]; exact h7 b hb
  · rw [ne b _ hb (by decide)]; exact h8 b hb
theorem r_tast (hX : CallFix p m c cc nL s args (qc :: tG) own) (hWd : Wd E K G L M H0 H locs s) (ha : K a = 3) {x : Nat} (hx : K x = 6) {i : Int32} {j : Nat} (hj : ix i (G a) = some j) (hdg : decode cc pc = .ok (.aastore, 1)) (kk : ∀ (H1 : Heap) (locs1 : List Loc), Wd E K G L (sr M a j x) H0 H1 locs1 s → W p l e R s m args below meth c H1 locs1 0 0 Q (F0 m (pc + 1) ls rest)) : W p l e R s m args below meth c H locs 0 0 Q (F0 m pc ls (.ref x :: .int i :: .ref a :: rest)) := by
  have h0 : K a ≠ 0 := by rw [ha]; decide
  obtain ⟨q, hq⟩ := pool hWd h0
  have hqq := hq
  obtain ⟨qx, hqx⟩ := pool hWd (show K x ≠ 0 by rw [hx]; decide)
  rw [enc3 ha] at hq
  rw [enc6 hx] at hqx
  obtain ⟨h1, rfl⟩ := ixE hj
  exact va_astq (r := (R_TR, F_TR, 10)) hX.1 hX.2.1 hWd.2.2.2.1 hWd.1 hWd.2.1 hWd.2.2.1 q 2 qx 2 hq rfl hqx rfl h1 hdg (fun H1 locs1 hP _ hS => kk H1 locs1 (moved hWd hqq h0 (sr_up (by rw [enc3 ha, sr_1])) (inv_sr hWd.2.2.2.2.1 ha hx) hP hS))
end JDK
end
section
/-! words of the tables that stay -/
theorem t_140 : Cond.methodLink "NibbleTrie" 40 ⟨"NibbleTrie$Path", "isNumber", "(J)Z"⟩ ∈ tG := tg_of (i := 140) (by decide +kernel) (by decide +kernel)
theorem t_123 : Cond.fieldLink "NibbleTrie" 12 "NibbleTrie" "working" "LNibbleTrie$Trie;" ∈ tG := tg_of (i := 123) (by decide +kernel) (by decide +kernel)
theorem t_151 : Cond.methodLink "NibbleTrie" 46 ⟨"NibbleTrie$Trie", "change", "(II)I"⟩ ∈ tG := tg_of (i := 151) (by decide +kernel) (by decide +kernel)
theorem t_47 : Cond.fieldLink "NibbleTrie" 49 "NibbleTrie$Trie" "map" "LNibbleTrie$PathMap;" ∈ tG := tg_of (i := 47) (by decide +kernel) (by decide +kernel)
theorem t_211 : Cond.methodLink "NibbleTrie" 53 ⟨"NibbleTrie$PathMap", "valueOf", "(I)I"⟩ ∈ tG := tg_of (i := 211) (by decide +kernel) (by decide +kernel)
theorem t_34 : Cond.fieldLink "NibbleTrie" 59 "NibbleTrie$PathMap" "rows" "I" ∈ tG := tg_of (i := 34) (by decide +kernel) (by decide +kernel)
theorem t_224 : Cond.methodLink "NibbleTrie" 62 ⟨"NibbleTrie$Trie", "rootNumber", "()J"⟩ ∈ tG := tg_of (i := 224) (by decide +kernel) (by decide +kernel)
theorem t_49 : Cond.fieldLink "NibbleTrie" 66 "NibbleTrie$Trie" "leaves" "I" ∈ tG := tg_of (i := 49) (by decide +kernel) (by decide +kernel)
theorem t_51 : Cond.fieldLink "NibbleTrie" 69 "NibbleTrie$Trie" "extensions" "I" ∈ tG := tg_of (i := 51) (by decide +kernel) (by decide +kernel)
theorem t_53 : Cond.fieldLink "NibbleTrie" 72 "NibbleTrie$Trie" "branches" "I" ∈ tG := tg_of (i := 53) (by decide +kernel) (by decide +kernel)
theorem t_259 : Cond.methodLink "NibbleTrie" 75 ⟨"NibbleTrie", "branchesToWrite", "()I"⟩ ∈ tG := tg_of (i := 259) (by decide +kernel) (by decide +kernel)
theorem t_291 : Cond.methodLink "NibbleTrie" 82 ⟨"NibbleTrie", "keepWorking", "()V"⟩ ∈ tG := tg_of (i := 291) (by decide +kernel) (by decide +kernel)
theorem t_275 : Cond.methodLink "NibbleTrie" 79 ⟨"NibbleTrie", "goDown", "()V"⟩ ∈ tG := tg_of (i := 275) (by decide +kernel) (by decide +kernel)
theorem t_125 : Cond.fieldLink "NibbleTrie" 16 "NibbleTrie" "keptNow" "I" ∈ tG := tg_of (i := 125) (by decide +kernel) (by decide +kernel)
theorem t_307 : Cond.methodLink "NibbleTrie" 85 ⟨"NibbleTrie", "isKept", "(I)Z"⟩ ∈ tG := tg_of (i := 307) (by decide +kernel) (by decide +kernel)
theorem t_124 : Cond.fieldLink "NibbleTrie" 36 "NibbleTrie" "kept" "[LNibbleTrie$Trie;" ∈ tG := tg_of (i := 124) (by decide +kernel) (by decide +kernel)
theorem t_319 : Cond.methodLink "NibbleTrie" 89 ⟨"NibbleTrie", "isFirstOfItsKind", "(II)Z"⟩ ∈ tG := tg_of (i := 319) (by decide +kernel) (by decide +kernel)
theorem t_327 : Cond.methodLink "NibbleTrie" 93 ⟨"NibbleTrie", "isUse", "(II)Z"⟩ ∈ tG := tg_of (i := 327) (by decide +kernel) (by decide +kernel)
theorem t_331 : Cond.methodLink "NibbleTrie" 96 ⟨"NibbleTrie$Trie", "digestOf", "(I)J"⟩ ∈ tG := tg_of (i := 331) (by decide +kernel) (by decide +kernel)
theorem t_126 : Cond.fieldLink "NibbleTrie" 23 "NibbleTrie" "proof" "LNibbleTrie$Proof;" ∈ tG := tg_of (i := 126) (by decide +kernel) (by decide +kernel)
theorem t_90 : Cond.fieldLink "NibbleTrie" 100 "NibbleTrie$Proof" "words" "[J" ∈ tG := tg_of (i := 90) (by decide +kernel) (by decide +kernel)
theorem t_339 : Cond.methodLink "NibbleTrie" 104 ⟨"NibbleTrie$Trie", "writeProof", "(I[J)I"⟩ ∈ tG := tg_of (i := 339) (by decide +kernel) (by decide +kernel)
theorem t_92 : Cond.fieldLink "NibbleTrie" 108 "NibbleTrie$Proof" "length" "I" ∈ tG := tg_of (i := 92) (by decide +kernel) (by decide +kernel)
theorem t_355 : Cond.methodLink "NibbleTrie" 111 ⟨"NibbleTrie$Proof", "has", "(I)Z"⟩ ∈ tG := tg_of (i := 355) (by decide +kernel) (by decide +kernel)
theorem t_371 : Cond.methodLink "NibbleTrie" 114 ⟨"NibbleTrie$Proof", "shows", "(JIJ)Z"⟩ ∈ tG := tg_of (i := 371) (by decide +kernel) (by decide +kernel)
theorem t_263 : Cond.methodLink "NibbleTrie" 118 ⟨"NibbleTrie$Trie", "hasAmongFirst", "(ILNibbleTrie$Trie;I)Z"⟩ ∈ tG := tg_of (i := 263) (by decide +kernel) (by decide +kernel)
theorem t_271 : Cond.methodLink "NibbleTrie" 122 ⟨"NibbleTrie", "isAmongVersions", "(ILNibbleTrie$Trie;I)Z"⟩ ∈ tG := tg_of (i := 271) (by decide +kernel) (by decide +kernel)
theorem t_55 : Cond.fieldLink "NibbleTrie" 125 "NibbleTrie$Trie" "parent" "[I" ∈ tG := tg_of (i := 55) (by decide +kernel) (by decide +kernel)
theorem t_279 : Cond.methodLink "NibbleTrie" 129 ⟨"NibbleTrie$Trie", "becomeLike", "(LNibbleTrie$Trie;)V"⟩ ∈ tG := tg_of (i := 279) (by decide +kernel) (by decide +kernel)
theorem t_116 : Cond.methodLink "NibbleTrie" 27 ⟨"java/lang/Math", "min", "(II)I"⟩ ∈ tG := tg_of (i := 116) (by decide +kernel) (by decide +kernel)
theorem t_247 : Cond.constantLong "NibbleTrie" 133 (-7046029254386353131) ∈ tG := tg_of (i := 247) (by decide +kernel) (by decide +kernel)
theorem t_471 : Cond.constant "NibbleTrieModel" 39 (65536) ∈ tG := tg_of (i := 471) (by decide +kernel) (by decide +kernel)
theorem t_472 : Cond.constant "NibbleTrieModel" 40 (131072) ∈ tG := tg_of (i := 472) (by decide +kernel) (by decide +kernel)
theorem t_468 : Cond.methodLink "NibbleTrieModel" 41 ⟨"NibbleTrieModel", "nibbles", "(I)I"⟩ ∈ tG := tg_of (i := 468) (by decide +kernel) (by decide +kernel)
theorem t_414 : Cond.fieldLink "NibbleTrieModel" 16 "NibbleTrieModel" "sizes" "[I" ∈ tG := tg_of (i := 414) (by decide +kernel) (by decide +kernel)
theorem t_412 : Cond.fieldLink "NibbleTrieModel" 7 "NibbleTrieModel" "keys" "[I" ∈ tG := tg_of (i := 412) (by decide +kernel) (by decide +kernel)
theorem t_419 : Cond.fieldLink "NibbleTrieModel" 26 "NibbleTrieModel" "branches" "[I" ∈ tG := tg_of (i := 419) (by decide +kernel) (by decide +kernel)
theorem t_413 : Cond.fieldLink "NibbleTrieModel" 13 "NibbleTrieModel" "values" "[I" ∈ tG := tg_of (i := 413) (by decide +kernel) (by decide +kernel)
theorem t_417 : Cond.fieldLink "NibbleTrieModel" 19 "NibbleTrieModel" "branch" "[I" ∈ tG := tg_of (i := 417) (by decide +kernel) (by decide +kernel)
theorem t_418 : Cond.fieldLink "NibbleTrieModel" 22 "NibbleTrieModel" "digest" "[J" ∈ tG := tg_of (i := 418) (by decide +kernel) (by decide +kernel)
theorem t_473 : Cond.methodLink "NibbleTrieModel" 45 ⟨"NibbleTrieModel", "find", "(II)I"⟩ ∈ tG := tg_of (i := 473) (by decide +kernel) (by decide +kernel)
theorem t_481 : Cond.methodLink "NibbleTrieModel" 49 ⟨"NibbleTrieModel", "valueIn", "(II)I"⟩ ∈ tG := tg_of (i := 481) (by decide +kernel) (by decide +kernel)
theorem t_509 : Cond.methodLink "NibbleTrieModel" 52 ⟨"NibbleTrieModel", "begins", "(II)Z"⟩ ∈ tG := tg_of (i := 509) (by decide +kernel) (by decide +kernel)
theorem t_505 : Cond.methodLink "NibbleTrieModel" 56 ⟨"NibbleTrieModel", "members", "(II)I"⟩ ∈ tG := tg_of (i := 505) (by decide +kernel) (by decide +kernel)
theorem t_516 : Cond.methodLink "NibbleTrieModel" 59 ⟨"NibbleTrieModel", "member", "(II)I"⟩ ∈ tG := tg_of (i := 516) (by decide +kernel) (by decide +kernel)
theorem t_512 : Cond.methodLink "NibbleTrieModel" 62 ⟨"NibbleTrieModel", "common", "(II)I"⟩ ∈ tG := tg_of (i := 512) (by decide +kernel) (by decide +kernel)
theorem t_420 : Cond.fieldLink "NibbleTrieModel" 29 "NibbleTrieModel" "words" "[J" ∈ tG := tg_of (i := 420) (by decide +kernel) (by decide +kernel)
theorem t_421 : Cond.fieldLink "NibbleTrieModel" 65 "NibbleTrieModel" "length" "I" ∈ tG := tg_of (i := 421) (by decide +kernel) (by decide +kernel)
theorem t_497 : Cond.methodLink "NibbleTrieModel" 77 ⟨"NibbleTrieModel", "place", "(II)I"⟩ ∈ tG := tg_of (i := 497) (by decide +kernel) (by decide +kernel)
theorem t_528 : Cond.methodLink "NibbleTrieModel" 68 ⟨"NibbleTrieModel", "say", "(J)V"⟩ ∈ tG := tg_of (i := 528) (by decide +kernel) (by decide +kernel)
theorem t_532 : Cond.constantLong "NibbleTrieModel" 72 (2) ∈ tG := tg_of (i := 532) (by decide +kernel) (by decide +kernel)
theorem t_533 : Cond.methodLink "NibbleTrieModel" 74 ⟨"NibbleTrieModel", "behind", "(II)I"⟩ ∈ tG := tg_of (i := 533) (by decide +kernel) (by decide +kernel)
theorem t_524 : Cond.methodLink "NibbleTrieModel" 80 ⟨"NibbleTrieModel", "reference", "(IIZ)V"⟩ ∈ tG := tg_of (i := 524) (by decide +kernel) (by decide +kernel)
theorem t_543 : Cond.constantLong "NibbleTrieModel" 84 (-7046029254386353131) ∈ tG := tg_of (i := 543) (by decide +kernel) (by decide +kernel)
theorem t_540 : Cond.methodLink "NibbleTrieModel" 86 ⟨"NibbleTrieModel", "mixed", "(JJ)J"⟩ ∈ tG := tg_of (i := 540) (by decide +kernel) (by decide +kernel)
theorem t_501 : Cond.methodLink "NibbleTrieModel" 90 ⟨"NibbleTrieModel", "isBranch", "(II)Z"⟩ ∈ tG := tg_of (i := 501) (by decide +kernel) (by decide +kernel)
theorem t_520 : Cond.methodLink "NibbleTrieModel" 93 ⟨"NibbleTrieModel", "encode", "(II)V"⟩ ∈ tG := tg_of (i := 520) (by decide +kernel) (by decide +kernel)
theorem t_536 : Cond.methodLink "NibbleTrieModel" 97 ⟨"NibbleTrieModel", "digestOfWords", "()J"⟩ ∈ tG := tg_of (i := 536) (by decide +kernel) (by decide +kernel)
theorem t_493 : Cond.methodLink "NibbleTrieModel" 101 ⟨"NibbleTrieModel", "build", "(I)V"⟩ ∈ tG := tg_of (i := 493) (by decide +kernel) (by decide +kernel)
theorem t_544 : Cond.methodLink "NibbleTrieModel" 105 ⟨"NibbleTrieModel", "rootOf", "(I)J"⟩ ∈ tG := tg_of (i := 544) (by decide +kernel) (by decide +kernel)
theorem t_415 : Cond.fieldLink "NibbleTrieModel" 109 "NibbleTrieModel" "kept" "I" ∈ tG := tg_of (i := 415) (by decide +kernel) (by decide +kernel)
theorem t_560 : Cond.methodLink "NibbleTrieModel" 112 ⟨"NibbleTrieModel", "same", "(II)Z"⟩ ∈ tG := tg_of (i := 560) (by decide +kernel) (by decide +kernel)
theorem t_568 : Cond.methodLink "NibbleTrieModel" 115 ⟨"NibbleTrieModel", "copy", "(II)V"⟩ ∈ tG := tg_of (i := 568) (by decide +kernel) (by decide +kernel)
theorem t_416 : Cond.fieldLink "NibbleTrieModel" 35 "NibbleTrieModel" "many" "I" ∈ tG := tg_of (i := 416) (by decide +kernel) (by decide +kernel)
theorem t_564 : Cond.methodLink "NibbleTrieModel" 122 ⟨"NibbleTrieModel", "back", "()V"⟩ ∈ tG := tg_of (i := 564) (by decide +kernel) (by decide +kernel)
theorem t_556 : Cond.methodLink "NibbleTrieModel" 118 ⟨"NibbleTrieModel", "has", "(I)Z"⟩ ∈ tG := tg_of (i := 556) (by decide +kernel) (by decide +kernel)
theorem t_584 : Cond.methodLink "NibbleTrieModel" 125 ⟨"NibbleTrieModel", "isVersion", "(I)Z"⟩ ∈ tG := tg_of (i := 584) (by decide +kernel) (by decide +kernel)
theorem t_596 : Cond.methodLink "NibbleTrieModel" 128 ⟨"NibbleTrieModel", "stands", "(I)Z"⟩ ∈ tG := tg_of (i := 596) (by decide +kernel) (by decide +kernel)
theorem t_608 : Cond.methodLink "NibbleTrieModel" 131 ⟨"NibbleTrieModel", "leads", "(III)Z"⟩ ∈ tG := tg_of (i := 608) (by decide +kernel) (by decide +kernel)
theorem t_604 : Cond.methodLink "NibbleTrieModel" 135 ⟨"NibbleTrieModel", "usesOf", "(I)I"⟩ ∈ tG := tg_of (i := 604) (by decide +kernel) (by decide +kernel)
theorem t_422 : Cond.fieldLink "NibbleTrieModel" 32 "NibbleTrieModel" "proof" "[J" ∈ tG := tg_of (i := 422) (by decide +kernel) (by decide +kernel)
theorem t_423 : Cond.fieldLink "NibbleTrieModel" 138 "NibbleTrieModel" "proofLength" "I" ∈ tG := tg_of (i := 423) (by decide +kernel) (by decide +kernel)
theorem t_616 : Cond.methodLink "NibbleTrieModel" 141 ⟨"NibbleTrieModel", "append", "()V"⟩ ∈ tG := tg_of (i := 616) (by decide +kernel) (by decide +kernel)
theorem t_427 : Cond.fieldLink "NibbleTrieModel" 144 "NibbleTrieModel" "count" "I" ∈ tG := tg_of (i := 427) (by decide +kernel) (by decide +kernel)
theorem t_425 : Cond.fieldLink "NibbleTrieModel" 147 "NibbleTrieModel" "first" "J" ∈ tG := tg_of (i := 425) (by decide +kernel) (by decide +kernel)
theorem t_426 : Cond.fieldLink "NibbleTrieModel" 151 "NibbleTrieModel" "second" "J" ∈ tG := tg_of (i := 426) (by decide +kernel) (by decide +kernel)
theorem t_424 : Cond.fieldLink "NibbleTrieModel" 154 "NibbleTrieModel" "at" "I" ∈ tG := tg_of (i := 424) (by decide +kernel) (by decide +kernel)
theorem t_636 : Cond.methodLink "NibbleTrieModel" 157 ⟨"NibbleTrieModel", "few", "(J)Z"⟩ ∈ tG := tg_of (i := 636) (by decide +kernel) (by decide +kernel)
theorem t_657 : Cond.methodLink "NibbleTrieModel" 161 ⟨"NibbleTrieModel", "branchEnd", "()I"⟩ ∈ tG := tg_of (i := 657) (by decide +kernel) (by decide +kernel)
theorem t_643 : Cond.methodLink "NibbleTrieModel" 165 ⟨"NibbleTrieModel", "digestOf", "(II)J"⟩ ∈ tG := tg_of (i := 643) (by decide +kernel) (by decide +kernel)
theorem t_428 : Cond.fieldLink "NibbleTrieModel" 169 "NibbleTrieModel" "path" "I" ∈ tG := tg_of (i := 428) (by decide +kernel) (by decide +kernel)
theorem t_639 : Cond.methodLink "NibbleTrieModel" 172 ⟨"NibbleTrieModel", "refer", "(II)Z"⟩ ∈ tG := tg_of (i := 639) (by decide +kernel) (by decide +kernel)
theorem t_651 : Cond.constantLong "NibbleTrieModel" 175 (3) ∈ tG := tg_of (i := 651) (by decide +kernel) (by decide +kernel)
theorem t_652 : Cond.constantLong "NibbleTrieModel" 177 (262143) ∈ tG := tg_of (i := 652) (by decide +kernel) (by decide +kernel)
theorem t_653 : Cond.methodLink "NibbleTrieModel" 182 ⟨"NibbleTrieModel", "throughBranch", "()I"⟩ ∈ tG := tg_of (i := 653) (by decide +kernel) (by decide +kernel)
theorem t_647 : Cond.methodLink "NibbleTrieModel" 179 ⟨"NibbleTrieModel", "throughTwo", "()I"⟩ ∈ tG := tg_of (i := 647) (by decide +kernel) (by decide +kernel)
theorem t_143 : Cond.constantLong "NibbleTrie$Path" 11 (16) ∈ tG := tg_of (i := 143) (by decide +kernel) (by decide +kernel)
theorem t_145 : Cond.constantLong "NibbleTrie$Path" 15 (256) ∈ tG := tg_of (i := 145) (by decide +kernel) (by decide +kernel)
theorem t_147 : Cond.constantLong "NibbleTrie$Path" 19 (4096) ∈ tG := tg_of (i := 147) (by decide +kernel) (by decide +kernel)
theorem t_149 : Cond.constantLong "NibbleTrie$Path" 23 (65536) ∈ tG := tg_of (i := 149) (by decide +kernel) (by decide +kernel)
theorem t_150 : Cond.constantLong "NibbleTrie$Path" 25 (131071) ∈ tG := tg_of (i := 150) (by decide +kernel) (by decide +kernel)
theorem t_148 : Cond.constantLong "NibbleTrie$Path" 21 (8191) ∈ tG := tg_of (i := 148) (by decide +kernel) (by decide +kernel)
theorem t_146 : Cond.constantLong "NibbleTrie$Path" 17 (511) ∈ tG := tg_of (i := 146) (by decide +kernel) (by decide +kernel)
theorem t_144 : Cond.constantLong "NibbleTrie$Path" 13 (31) ∈ tG := tg_of (i := 144) (by decide +kernel) (by decide +kernel)
theorem t_169 : Cond.constant "NibbleTrie$Path" 27 (65536) ∈ tG := tg_of (i := 169) (by decide +kernel) (by decide +kernel)
theorem t_166 : Cond.methodLink "NibbleTrie$Path" 28 ⟨"NibbleTrie$Path", "length", "(I)I"⟩ ∈ tG := tg_of (i := 166) (by decide +kernel) (by decide +kernel)
theorem t_350 : Cond.methodLink "NibbleTrie$Path" 32 ⟨"NibbleTrie$Path", "front", "(II)I"⟩ ∈ tG := tg_of (i := 350) (by decide +kernel) (by decide +kernel)
theorem t_181 : Cond.methodLink "NibbleTrie$Path" 36 ⟨"java/lang/Math", "min", "(II)I"⟩ ∈ tG := tg_of (i := 181) (by decide +kernel) (by decide +kernel)
theorem t_182 : Cond.methodLink "NibbleTrie$Path" 41 ⟨"NibbleTrie$Path", "nibble", "(II)I"⟩ ∈ tG := tg_of (i := 182) (by decide +kernel) (by decide +kernel)
theorem t_33 : Cond.fieldLink "NibbleTrie$PathMap" 18 "NibbleTrie$PathMap" "rows" "I" ∈ tG := tg_of (i := 33) (by decide +kernel) (by decide +kernel)
theorem t_29 : Cond.fieldLink "NibbleTrie$PathMap" 9 "NibbleTrie$PathMap" "paths" "[I" ∈ tG := tg_of (i := 29) (by decide +kernel) (by decide +kernel)
theorem t_215 : Cond.methodLink "NibbleTrie$PathMap" 22 ⟨"NibbleTrie$PathMap", "rowOf", "(I)I"⟩ ∈ tG := tg_of (i := 215) (by decide +kernel) (by decide +kernel)
theorem t_31 : Cond.fieldLink "NibbleTrie$PathMap" 15 "NibbleTrie$PathMap" "values" "[I" ∈ tG := tg_of (i := 31) (by decide +kernel) (by decide +kernel)
theorem t_163 : Cond.methodLink "NibbleTrie$PathMap" 26 ⟨"NibbleTrie$Path", "order", "(I)I"⟩ ∈ tG := tg_of (i := 163) (by decide +kernel) (by decide +kernel)
theorem t_287 : Cond.methodLink "NibbleTrie$PathMap" 31 ⟨"java/lang/System", "arraycopy", "(Ljava/lang/Object;ILjava/lang/Object;II)V"⟩ ∈ tG := tg_of (i := 287) (by decide +kernel) (by decide +kernel)
theorem t_197 : Cond.methodLink "NibbleTrie$PathMap" 37 ⟨"NibbleTrie$Path", "length", "(I)I"⟩ ∈ tG := tg_of (i := 197) (by decide +kernel) (by decide +kernel)
theorem t_202 : Cond.methodLink "NibbleTrie$PathMap" 40 ⟨"NibbleTrie$Path", "nibble", "(II)I"⟩ ∈ tG := tg_of (i := 202) (by decide +kernel) (by decide +kernel)
theorem t_91 : Cond.fieldLink "NibbleTrie$Proof" 15 "NibbleTrie$Proof" "length" "I" ∈ tG := tg_of (i := 91) (by decide +kernel) (by decide +kernel)
theorem t_93 : Cond.fieldLink "NibbleTrie$Proof" 19 "NibbleTrie$Proof" "state" "I" ∈ tG := tg_of (i := 93) (by decide +kernel) (by decide +kernel)
theorem t_95 : Cond.fieldLink "NibbleTrie$Proof" 27 "NibbleTrie$Proof" "left" "I" ∈ tG := tg_of (i := 95) (by decide +kernel) (by decide +kernel)
theorem t_375 : Cond.methodLink "NibbleTrie$Proof" 40 ⟨"NibbleTrie$Proof", "takeTopReference", "(J)V"⟩ ∈ tG := tg_of (i := 375) (by decide +kernel) (by decide +kernel)
theorem t_94 : Cond.fieldLink "NibbleTrie$Proof" 22 "NibbleTrie$Proof" "next" "I" ∈ tG := tg_of (i := 94) (by decide +kernel) (by decide +kernel)
theorem t_98 : Cond.fieldLink "NibbleTrie$Proof" 36 "NibbleTrie$Proof" "shown" "J" ∈ tG := tg_of (i := 98) (by decide +kernel) (by decide +kernel)
theorem t_97 : Cond.fieldLink "NibbleTrie$Proof" 33 "NibbleTrie$Proof" "referenceWords" "I" ∈ tG := tg_of (i := 97) (by decide +kernel) (by decide +kernel)
theorem t_89 : Cond.fieldLink "NibbleTrie$Proof" 9 "NibbleTrie$Proof" "words" "[J" ∈ tG := tg_of (i := 89) (by decide +kernel) (by decide +kernel)
theorem t_96 : Cond.fieldLink "NibbleTrie$Proof" 30 "NibbleTrie$Proof" "reference" "I" ∈ tG := tg_of (i := 96) (by decide +kernel) (by decide +kernel)
theorem t_396 : Cond.methodLink "NibbleTrie$Proof" 50 ⟨"NibbleTrie$Proof", "followPair", "(JJ)V"⟩ ∈ tG := tg_of (i := 396) (by decide +kernel) (by decide +kernel)
theorem t_390 : Cond.methodLink "NibbleTrie$Proof" 47 ⟨"NibbleTrie$Proof", "followDigest", "(J)V"⟩ ∈ tG := tg_of (i := 390) (by decide +kernel) (by decide +kernel)
theorem t_386 : Cond.methodLink "NibbleTrie$Proof" 44 ⟨"NibbleTrie$Proof", "end", "(J)V"⟩ ∈ tG := tg_of (i := 386) (by decide +kernel) (by decide +kernel)
theorem t_383 : Cond.methodLink "NibbleTrie$Proof" 54 ⟨"NibbleTrie$Proof", "has", "(I)Z"⟩ ∈ tG := tg_of (i := 383) (by decide +kernel) (by decide +kernel)
theorem t_384 : Cond.constantLong "NibbleTrie$Proof" 58 (2) ∈ tG := tg_of (i := 384) (by decide +kernel) (by decide +kernel)
theorem t_379 : Cond.methodLink "NibbleTrie$Proof" 60 ⟨"NibbleTrie$Proof", "hasReference", "(I)Z"⟩ ∈ tG := tg_of (i := 379) (by decide +kernel) (by decide +kernel)
theorem t_400 : Cond.methodLink "NibbleTrie$Proof" 67 ⟨"NibbleTrie$Path", "isNumber", "(J)Z"⟩ ∈ tG := tg_of (i := 400) (by decide +kernel) (by decide +kernel)
theorem t_401 : Cond.methodLink "NibbleTrie$Proof" 71 ⟨"NibbleTrie$Path", "begins", "(II)Z"⟩ ∈ tG := tg_of (i := 401) (by decide +kernel) (by decide +kernel)
theorem t_402 : Cond.methodLink "NibbleTrie$Proof" 75 ⟨"NibbleTrie$Path", "length", "(I)I"⟩ ∈ tG := tg_of (i := 402) (by decide +kernel) (by decide +kernel)
theorem t_395 : Cond.methodLink "NibbleTrie$Proof" 78 ⟨"NibbleTrie$Path", "without", "(II)I"⟩ ∈ tG := tg_of (i := 395) (by decide +kernel) (by decide +kernel)
theorem t_394 : Cond.methodLink "NibbleTrie$Proof" 82 ⟨"NibbleTrie$Path", "nibble", "(II)I"⟩ ∈ tG := tg_of (i := 394) (by decide +kernel) (by decide +kernel)
theorem t_46 : Cond.fieldLink "NibbleTrie$Trie" 12 "NibbleTrie$Trie" "map" "LNibbleTrie$PathMap;" ∈ tG := tg_of (i := 46) (by decide +kernel) (by decide +kernel)
theorem t_155 : Cond.methodLink "NibbleTrie$Trie" 50 ⟨"NibbleTrie$PathMap", "rowOf", "(I)I"⟩ ∈ tG := tg_of (i := 155) (by decide +kernel) (by decide +kernel)
theorem t_32 : Cond.fieldLink "NibbleTrie$Trie" 61 "NibbleTrie$PathMap" "values" "[I" ∈ tG := tg_of (i := 32) (by decide +kernel) (by decide +kernel)
theorem t_203 : Cond.methodLink "NibbleTrie$Trie" 64 ⟨"NibbleTrie$PathMap", "remove", "(I)V"⟩ ∈ tG := tg_of (i := 203) (by decide +kernel) (by decide +kernel)
theorem t_170 : Cond.methodLink "NibbleTrie$Trie" 58 ⟨"NibbleTrie$Trie", "list", "()V"⟩ ∈ tG := tg_of (i := 170) (by decide +kernel) (by decide +kernel)
theorem t_159 : Cond.methodLink "NibbleTrie$Trie" 54 ⟨"NibbleTrie$PathMap", "insert", "(II)V"⟩ ∈ tG := tg_of (i := 159) (by decide +kernel) (by decide +kernel)
theorem t_283 : Cond.methodLink "NibbleTrie$Trie" 68 ⟨"NibbleTrie$PathMap", "copy", "(LNibbleTrie$PathMap;)V"⟩ ∈ tG := tg_of (i := 283) (by decide +kernel) (by decide +kernel)
theorem t_48 : Cond.fieldLink "NibbleTrie$Trie" 18 "NibbleTrie$Trie" "leaves" "I" ∈ tG := tg_of (i := 48) (by decide +kernel) (by decide +kernel)
theorem t_50 : Cond.fieldLink "NibbleTrie$Trie" 22 "NibbleTrie$Trie" "extensions" "I" ∈ tG := tg_of (i := 50) (by decide +kernel) (by decide +kernel)
theorem t_52 : Cond.fieldLink "NibbleTrie$Trie" 25 "NibbleTrie$Trie" "branches" "I" ∈ tG := tg_of (i := 52) (by decide +kernel) (by decide +kernel)
theorem t_54 : Cond.fieldLink "NibbleTrie$Trie" 28 "NibbleTrie$Trie" "parent" "[I" ∈ tG := tg_of (i := 54) (by decide +kernel) (by decide +kernel)
theorem t_290 : Cond.methodLink "NibbleTrie$Trie" 72 ⟨"java/lang/System", "arraycopy", "(Ljava/lang/Object;ILjava/lang/Object;II)V"⟩ ∈ tG := tg_of (i := 290) (by decide +kernel) (by decide +kernel)
theorem t_56 : Cond.fieldLink "NibbleTrie$Trie" 32 "NibbleTrie$Trie" "firstRow" "[I" ∈ tG := tg_of (i := 56) (by decide +kernel) (by decide +kernel)
theorem t_57 : Cond.fieldLink "NibbleTrie$Trie" 35 "NibbleTrie$Trie" "endRow" "[I" ∈ tG := tg_of (i := 57) (by decide +kernel) (by decide +kernel)
theorem t_58 : Cond.fieldLink "NibbleTrie$Trie" 38 "NibbleTrie$Trie" "depth" "[I" ∈ tG := tg_of (i := 58) (by decide +kernel) (by decide +kernel)
theorem t_35 : Cond.fieldLink "NibbleTrie$Trie" 78 "NibbleTrie$PathMap" "rows" "I" ∈ tG := tg_of (i := 35) (by decide +kernel) (by decide +kernel)
theorem t_174 : Cond.methodLink "NibbleTrie$Trie" 81 ⟨"NibbleTrie$Trie", "listPart", "(IIII)V"⟩ ∈ tG := tg_of (i := 174) (by decide +kernel) (by decide +kernel)
theorem t_30 : Cond.fieldLink "NibbleTrie$Trie" 85 "NibbleTrie$PathMap" "paths" "[I" ∈ tG := tg_of (i := 30) (by decide +kernel) (by decide +kernel)
theorem t_178 : Cond.methodLink "NibbleTrie$Trie" 88 ⟨"NibbleTrie$Path", "commonLength", "(II)I"⟩ ∈ tG := tg_of (i := 178) (by decide +kernel) (by decide +kernel)
theorem t_185 : Cond.methodLink "NibbleTrie$Trie" 94 ⟨"NibbleTrie$Trie", "listBranch", "(IIII)V"⟩ ∈ tG := tg_of (i := 185) (by decide +kernel) (by decide +kernel)
theorem t_189 : Cond.methodLink "NibbleTrie$Trie" 97 ⟨"NibbleTrie$Trie", "firstChildRow", "(II)I"⟩ ∈ tG := tg_of (i := 189) (by decide +kernel) (by decide +kernel)
theorem t_198 : Cond.methodLink "NibbleTrie$Trie" 100 ⟨"NibbleTrie$PathMap", "endOfChild", "(IIII)I"⟩ ∈ tG := tg_of (i := 198) (by decide +kernel) (by decide +kernel)
theorem t_193 : Cond.methodLink "NibbleTrie$Trie" 104 ⟨"NibbleTrie$PathMap", "endsAt", "(II)Z"⟩ ∈ tG := tg_of (i := 193) (by decide +kernel) (by decide +kernel)
theorem t_59 : Cond.fieldLink "NibbleTrie$Trie" 41 "NibbleTrie$Trie" "topReference" "[J" ∈ tG := tg_of (i := 59) (by decide +kernel) (by decide +kernel)
theorem t_228 : Cond.methodLink "NibbleTrie$Trie" 108 ⟨"NibbleTrie$Trie", "writeReference", "(III[JI)I"⟩ ∈ tG := tg_of (i := 228) (by decide +kernel) (by decide +kernel)
theorem t_236 : Cond.methodLink "NibbleTrie$Trie" 116 ⟨"NibbleTrie$Trie", "branchDigest", "(III)J"⟩ ∈ tG := tg_of (i := 236) (by decide +kernel) (by decide +kernel)
theorem t_60 : Cond.fieldLink "NibbleTrie$Trie" 47 "NibbleTrie$Trie" "drafts" "[[J" ∈ tG := tg_of (i := 60) (by decide +kernel) (by decide +kernel)
theorem t_240 : Cond.methodLink "NibbleTrie$Trie" 120 ⟨"NibbleTrie$Trie", "writeBranch", "(III[JI)I"⟩ ∈ tG := tg_of (i := 240) (by decide +kernel) (by decide +kernel)
theorem t_232 : Cond.constantLong "NibbleTrie$Trie" 123 (2) ∈ tG := tg_of (i := 232) (by decide +kernel) (by decide +kernel)
theorem t_248 : Cond.methodLink "NibbleTrie$Trie" 128 ⟨"NibbleTrie$Path", "front", "(II)I"⟩ ∈ tG := tg_of (i := 248) (by decide +kernel) (by decide +kernel)
theorem t_233 : Cond.methodLink "NibbleTrie$Trie" 125 ⟨"NibbleTrie$Path", "without", "(II)I"⟩ ∈ tG := tg_of (i := 233) (by decide +kernel) (by decide +kernel)
theorem t_343 : Cond.methodLink "NibbleTrie$Trie" 131 ⟨"NibbleTrie$Trie", "pathTo", "(I)I"⟩ ∈ tG := tg_of (i := 343) (by decide +kernel) (by decide +kernel)
theorem t_347 : Cond.methodLink "NibbleTrie$Trie" 134 ⟨"NibbleTrie$Path", "begins", "(II)Z"⟩ ∈ tG := tg_of (i := 347) (by decide +kernel) (by decide +kernel)
theorem t_267 : Cond.methodLink "NibbleTrie$Trie" 137 ⟨"NibbleTrie$Trie", "isSame", "(ILNibbleTrie$Trie;I)Z"⟩ ∈ tG := tg_of (i := 267) (by decide +kernel) (by decide +kernel)
theorem t_139 : Cond.code ⟨"NibbleTrie", "put", "(II)I"⟩ prog_1_method_2_code 3 (some .int) ∈ tG := tg_of (i := 139) (by decide +kernel) (by decide +kernel)
theorem t_1 : Cond.initialized "NibbleTrie" ∈ tG := tg_of (i := 1) (by decide +kernel) (by decide +kernel)
theorem t_137 : Cond.instanceMethod ⟨"NibbleTrie", "put", "(II)I"⟩ ∈ tG := tg_of (i := 137) (by decide +kernel) (by decide +kernel)
theorem t_138 : Cond.selects "NibbleTrie" ⟨"NibbleTrie", "put", "(II)I"⟩ ⟨"NibbleTrie", "put", "(II)I"⟩ ∈ tG := tg_of (i := 138) (by decide +kernel) (by decide +kernel)
theorem t_210 : Cond.code ⟨"NibbleTrie", "get", "(I)I"⟩ prog_1_method_3_code 2 (some .int) ∈ tG := tg_of (i := 210) (by decide +kernel) (by decide +kernel)
theorem t_208 : Cond.instanceMethod ⟨"NibbleTrie", "get", "(I)I"⟩ ∈ tG := tg_of (i := 208) (by decide +kernel) (by decide +kernel)
theorem t_209 : Cond.selects "NibbleTrie" ⟨"NibbleTrie", "get", "(I)I"⟩ ⟨"NibbleTrie", "get", "(I)I"⟩ ∈ tG := tg_of (i := 209) (by decide +kernel) (by decide +kernel)
theorem t_219 : Cond.code ⟨"NibbleTrie", "size", "()I"⟩ prog_1_method_4_code 1 (some .int) ∈ tG := tg_of (i := 219) (by decide +kernel) (by decide +kernel)
theorem t_217 : Cond.instanceMethod ⟨"NibbleTrie", "size", "()I"⟩ ∈ tG := tg_of (i := 217) (by decide +kernel) (by decide +kernel)
theorem t_218 : Cond.selects "NibbleTrie" ⟨"NibbleTrie", "size", "()I"⟩ ⟨"NibbleTrie", "size", "()I"⟩ ∈ tG := tg_of (i := 218) (by decide +kernel) (by decide +kernel)
theorem t_223 : Cond.code ⟨"NibbleTrie", "root", "()J"⟩ prog_1_method_5_code 1 (some .long) ∈ tG := tg_of (i := 223) (by decide +kernel) (by decide +kernel)
theorem t_221 : Cond.instanceMethod ⟨"NibbleTrie", "root", "()J"⟩ ∈ tG := tg_of (i := 221) (by decide +kernel) (by decide +kernel)
theorem t_222 : Cond.selects "NibbleTrie" ⟨"NibbleTrie", "root", "()J"⟩ ⟨"NibbleTrie", "root", "()J"⟩ ∈ tG := tg_of (i := 222) (by decide +kernel) (by decide +kernel)
theorem t_254 : Cond.code ⟨"NibbleTrie", "count", "(I)I"⟩ prog_1_method_6_code 2 (some .int) ∈ tG := tg_of (i := 254) (by decide +kernel) (by decide +kernel)
theorem t_252 : Cond.instanceMethod ⟨"NibbleTrie", "count", "(I)I"⟩ ∈ tG := tg_of (i := 252) (by decide +kernel) (by decide +kernel)
theorem t_253 : Cond.selects "NibbleTrie" ⟨"NibbleTrie", "count", "(I)I"⟩ ⟨"NibbleTrie", "count", "(I)I"⟩ ∈ tG := tg_of (i := 253) (by decide +kernel) (by decide +kernel)
theorem t_258 : Cond.code ⟨"NibbleTrie", "commit", "(I)I"⟩ prog_1_method_7_code 3 (some .int) ∈ tG := tg_of (i := 258) (by decide +kernel) (by decide +kernel)
theorem t_256 : Cond.instanceMethod ⟨"NibbleTrie", "commit", "(I)I"⟩ ∈ tG := tg_of (i := 256) (by decide +kernel) (by decide +kernel)
theorem t_257 : Cond.selects "NibbleTrie" ⟨"NibbleTrie", "commit", "(I)I"⟩ ⟨"NibbleTrie", "commit", "(I)I"⟩ ∈ tG := tg_of (i := 257) (by decide +kernel) (by decide +kernel)
theorem t_298 : Cond.code ⟨"NibbleTrie", "crash", "()I"⟩ prog_1_method_8_code 1 (some .int) ∈ tG := tg_of (i := 298) (by decide +kernel) (by decide +kernel)
theorem t_296 : Cond.instanceMethod ⟨"NibbleTrie", "crash", "()I"⟩ ∈ tG := tg_of (i := 296) (by decide +kernel) (by decide +kernel)
theorem t_297 : Cond.selects "NibbleTrie" ⟨"NibbleTrie", "crash", "()I"⟩ ⟨"NibbleTrie", "crash", "()I"⟩ ∈ tG := tg_of (i := 297) (by decide +kernel) (by decide +kernel)
theorem t_302 : Cond.code ⟨"NibbleTrie", "versions", "()I"⟩ prog_1_method_9_code 1 (some .int) ∈ tG := tg_of (i := 302) (by decide +kernel) (by decide +kernel)
theorem t_300 : Cond.instanceMethod ⟨"NibbleTrie", "versions", "()I"⟩ ∈ tG := tg_of (i := 300) (by decide +kernel) (by decide +kernel)
theorem t_301 : Cond.selects "NibbleTrie" ⟨"NibbleTrie", "versions", "()I"⟩ ⟨"NibbleTrie", "versions", "()I"⟩ ∈ tG := tg_of (i := 301) (by decide +kernel) (by decide +kernel)
theorem t_306 : Cond.code ⟨"NibbleTrie", "at", "(II)I"⟩ prog_1_method_10_code 3 (some .int) ∈ tG := tg_of (i := 306) (by decide +kernel) (by decide +kernel)
theorem t_304 : Cond.instanceMethod ⟨"NibbleTrie", "at", "(II)I"⟩ ∈ tG := tg_of (i := 304) (by decide +kernel) (by decide +kernel)
theorem t_305 : Cond.selects "NibbleTrie" ⟨"NibbleTrie", "at", "(II)I"⟩ ⟨"NibbleTrie", "at", "(II)I"⟩ ∈ tG := tg_of (i := 305) (by decide +kernel) (by decide +kernel)
theorem t_314 : Cond.code ⟨"NibbleTrie", "rootAt", "(I)J"⟩ prog_1_method_11_code 2 (some .long) ∈ tG := tg_of (i := 314) (by decide +kernel) (by decide +kernel)
theorem t_312 : Cond.instanceMethod ⟨"NibbleTrie", "rootAt", "(I)J"⟩ ∈ tG := tg_of (i := 312) (by decide +kernel) (by decide +kernel)
theorem t_313 : Cond.selects "NibbleTrie" ⟨"NibbleTrie", "rootAt", "(I)J"⟩ ⟨"NibbleTrie", "rootAt", "(I)J"⟩ ∈ tG := tg_of (i := 313) (by decide +kernel) (by decide +kernel)
theorem t_318 : Cond.code ⟨"NibbleTrie", "stored", "()I"⟩ prog_1_method_12_code 4 (some .int) ∈ tG := tg_of (i := 318) (by decide +kernel) (by decide +kernel)
theorem t_316 : Cond.instanceMethod ⟨"NibbleTrie", "stored", "()I"⟩ ∈ tG := tg_of (i := 316) (by decide +kernel) (by decide +kernel)
theorem t_317 : Cond.selects "NibbleTrie" ⟨"NibbleTrie", "stored", "()I"⟩ ⟨"NibbleTrie", "stored", "()I"⟩ ∈ tG := tg_of (i := 317) (by decide +kernel) (by decide +kernel)
theorem t_326 : Cond.code ⟨"NibbleTrie", "uses", "(J)I"⟩ prog_1_method_13_code 6 (some .int) ∈ tG := tg_of (i := 326) (by decide +kernel) (by decide +kernel)
theorem t_324 : Cond.instanceMethod ⟨"NibbleTrie", "uses", "(J)I"⟩ ∈ tG := tg_of (i := 324) (by decide +kernel) (by decide +kernel)
theorem t_325 : Cond.selects "NibbleTrie" ⟨"NibbleTrie", "uses", "(J)I"⟩ ⟨"NibbleTrie", "uses", "(J)I"⟩ ∈ tG := tg_of (i := 325) (by decide +kernel) (by decide +kernel)
theorem t_338 : Cond.code ⟨"NibbleTrie", "prove", "(II)I"⟩ prog_1_method_14_code 3 (some .int) ∈ tG := tg_of (i := 338) (by decide +kernel) (by decide +kernel)
theorem t_336 : Cond.instanceMethod ⟨"NibbleTrie", "prove", "(II)I"⟩ ∈ tG := tg_of (i := 336) (by decide +kernel) (by decide +kernel)
theorem t_337 : Cond.selects "NibbleTrie" ⟨"NibbleTrie", "prove", "(II)I"⟩ ⟨"NibbleTrie", "prove", "(II)I"⟩ ∈ tG := tg_of (i := 337) (by decide +kernel) (by decide +kernel)
theorem t_354 : Cond.code ⟨"NibbleTrie", "word", "(I)J"⟩ prog_1_method_15_code 2 (some .long) ∈ tG := tg_of (i := 354) (by decide +kernel) (by decide +kernel)
theorem t_352 : Cond.instanceMethod ⟨"NibbleTrie", "word", "(I)J"⟩ ∈ tG := tg_of (i := 352) (by decide +kernel) (by decide +kernel)
theorem t_353 : Cond.selects "NibbleTrie" ⟨"NibbleTrie", "word", "(I)J"⟩ ⟨"NibbleTrie", "word", "(I)J"⟩ ∈ tG := tg_of (i := 353) (by decide +kernel) (by decide +kernel)
theorem t_362 : Cond.code ⟨"NibbleTrie", "alter", "(IJ)Z"⟩ prog_1_method_16_code 4 (some .boolean) ∈ tG := tg_of (i := 362) (by decide +kernel) (by decide +kernel)
theorem t_360 : Cond.instanceMethod ⟨"NibbleTrie", "alter", "(IJ)Z"⟩ ∈ tG := tg_of (i := 360) (by decide +kernel) (by decide +kernel)
theorem t_361 : Cond.selects "NibbleTrie" ⟨"NibbleTrie", "alter", "(IJ)Z"⟩ ⟨"NibbleTrie", "alter", "(IJ)Z"⟩ ∈ tG := tg_of (i := 361) (by decide +kernel) (by decide +kernel)
theorem t_366 : Cond.code ⟨"NibbleTrie", "cut", "()I"⟩ prog_1_method_17_code 1 (some .int) ∈ tG := tg_of (i := 366) (by decide +kernel) (by decide +kernel)
theorem t_364 : Cond.instanceMethod ⟨"NibbleTrie", "cut", "()I"⟩ ∈ tG := tg_of (i := 364) (by decide +kernel) (by decide +kernel)
theorem t_365 : Cond.selects "NibbleTrie" ⟨"NibbleTrie", "cut", "()I"⟩ ⟨"NibbleTrie", "cut", "()I"⟩ ∈ tG := tg_of (i := 365) (by decide +kernel) (by decide +kernel)
theorem t_370 : Cond.code ⟨"NibbleTrie", "verify", "(JII)Z"⟩ prog_1_method_18_code 5 (some .boolean) ∈ tG := tg_of (i := 370) (by decide +kernel) (by decide +kernel)
theorem t_368 : Cond.instanceMethod ⟨"NibbleTrie", "verify", "(JII)Z"⟩ ∈ tG := tg_of (i := 368) (by decide +kernel) (by decide +kernel)
theorem t_369 : Cond.selects "NibbleTrie" ⟨"NibbleTrie", "verify", "(JII)Z"⟩ ⟨"NibbleTrie", "verify", "(JII)Z"⟩ ∈ tG := tg_of (i := 369) (by decide +kernel) (by decide +kernel)
theorem t_310 : Cond.code ⟨"NibbleTrie", "isKept", "(I)Z"⟩ prog_1_method_19_code 2 (some .boolean) ∈ tG := tg_of (i := 310) (by decide +kernel) (by decide +kernel)
theorem t_309 : Cond.instanceMethod ⟨"NibbleTrie", "isKept", "(I)Z"⟩ ∈ tG := tg_of (i := 309) (by decide +kernel) (by decide +kernel)
theorem ts_12 : Cond.selects "NibbleTrie" ⟨"NibbleTrie", "isKept", "(I)Z"⟩ ⟨"NibbleTrie", "isKept", "(I)Z"⟩ ∈ tG := ts_of (i := 12) (by decide +kernel) (by decide +kernel)
theorem t_262 : Cond.code ⟨"NibbleTrie", "branchesToWrite", "()I"⟩ prog_1_method_20_code 4 (some .int) ∈ tG := tg_of (i := 262) (by decide +kernel) (by decide +kernel)
theorem t_261 : Cond.instanceMethod ⟨"NibbleTrie", "branchesToWrite", "()I"⟩ ∈ tG := tg_of (i := 261) (by decide +kernel) (by decide +kernel)
theorem ts_7 : Cond.selects "NibbleTrie" ⟨"NibbleTrie", "branchesToWrite", "()I"⟩ ⟨"NibbleTrie", "branchesToWrite", "()I"⟩ ∈ tG := ts_of (i := 7) (by decide +kernel) (by decide +kernel)
theorem t_274 : Cond.code ⟨"NibbleTrie", "isAmongVersions", "(ILNibbleTrie$Trie;I)Z"⟩ prog_1_method_21_code 5 (some .boolean) ∈ tG := tg_of (i := 274) (by decide +kernel) (by decide +kernel)
theorem t_273 : Cond.instanceMethod ⟨"NibbleTrie", "isAmongVersions", "(ILNibbleTrie$Trie;I)Z"⟩ ∈ tG := tg_of (i := 273) (by decide +kernel) (by decide +kernel)
theorem ts_9 : Cond.selects "NibbleTrie" ⟨"NibbleTrie", "isAmongVersions", "(ILNibbleTrie$Trie;I)Z"⟩ ⟨"NibbleTrie", "isAmongVersions", "(ILNibbleTrie$Trie;I)Z"⟩ ∈ tG := ts_of (i := 9) (by decide +kernel) (by decide +kernel)
theorem t_322 : Cond.code ⟨"NibbleTrie", "isFirstOfItsKind", "(II)Z"⟩ prog_1_method_22_code 3 (some .boolean) ∈ tG := tg_of (i := 322) (by decide +kernel) (by decide +kernel)
theorem t_321 : Cond.instanceMethod ⟨"NibbleTrie", "isFirstOfItsKind", "(II)Z"⟩ ∈ tG := tg_of (i := 321) (by decide +kernel) (by decide +kernel)
theorem ts_13 : Cond.selects "NibbleTrie" ⟨"NibbleTrie", "isFirstOfItsKind", "(II)Z"⟩ ⟨"NibbleTrie", "isFirstOfItsKind", "(II)Z"⟩ ∈ tG := ts_of (i := 13) (by decide +kernel) (by decide +kernel)
theorem t_330 : Cond.code ⟨"NibbleTrie", "isUse", "(II)Z"⟩ prog_1_method_23_code 4 (some .boolean) ∈ tG := tg_of (i := 330) (by decide +kernel) (by decide +kernel)
theorem t_329 : Cond.instanceMethod ⟨"NibbleTrie", "isUse", "(II)Z"⟩ ∈ tG := tg_of (i := 329) (by decide +kernel) (by decide +kernel)
theorem ts_14 : Cond.selects "NibbleTrie" ⟨"NibbleTrie", "isUse", "(II)Z"⟩ ⟨"NibbleTrie", "isUse", "(II)Z"⟩ ∈ tG := ts_of (i := 14) (by decide +kernel) (by decide +kernel)
theorem t_294 : Cond.code ⟨"NibbleTrie", "keepWorking", "()V"⟩ prog_1_method_24_code 4 none ∈ tG := tg_of (i := 294) (by decide +kernel) (by decide +kernel)
theorem t_293 : Cond.instanceMethod ⟨"NibbleTrie", "keepWorking", "()V"⟩ ∈ tG := tg_of (i := 293) (by decide +kernel) (by decide +kernel)
theorem ts_11 : Cond.selects "NibbleTrie" ⟨"NibbleTrie", "keepWorking", "()V"⟩ ⟨"NibbleTrie", "keepWorking", "()V"⟩ ∈ tG := ts_of (i := 11) (by decide +kernel) (by decide +kernel)
theorem t_278 : Cond.code ⟨"NibbleTrie", "goDown", "()V"⟩ prog_1_method_25_code 1 none ∈ tG := tg_of (i := 278) (by decide +kernel) (by decide +kernel)
theorem t_277 : Cond.instanceMethod ⟨"NibbleTrie", "goDown", "()V"⟩ ∈ tG := tg_of (i := 277) (by decide +kernel) (by decide +kernel)
theorem ts_10 : Cond.selects "NibbleTrie" ⟨"NibbleTrie", "goDown", "()V"⟩ ⟨"NibbleTrie", "goDown", "()V"⟩ ∈ tG := ts_of (i := 10) (by decide +kernel) (by decide +kernel)
theorem t_246 : Cond.code ⟨"NibbleTrie", "digest", "([JII)J"⟩ prog_1_method_26_code 6 (some .long) ∈ tG := tg_of (i := 246) (by decide +kernel) (by decide +kernel)
theorem t_245 : Cond.static ⟨"NibbleTrie", "digest", "([JII)J"⟩ ∈ tG := tg_of (i := 245) (by decide +kernel) (by decide +kernel)
theorem t_470 : Cond.code ⟨"NibbleTrieModel", "nibbles", "(I)I"⟩ prog_7_method_2_code 1 (some .int) ∈ tG := tg_of (i := 470) (by decide +kernel) (by decide +kernel)
theorem t_6 : Cond.initialized "NibbleTrieModel" ∈ tG := tg_of (i := 6) (by decide +kernel) (by decide +kernel)
theorem t_469 : Cond.static ⟨"NibbleTrieModel", "nibbles", "(I)I"⟩ ∈ tG := tg_of (i := 469) (by decide +kernel) (by decide +kernel)
theorem t_511 : Cond.code ⟨"NibbleTrieModel", "begins", "(II)Z"⟩ prog_7_method_3_code 3 (some .boolean) ∈ tG := tg_of (i := 511) (by decide +kernel) (by decide +kernel)
theorem t_510 : Cond.static ⟨"NibbleTrieModel", "begins", "(II)Z"⟩ ∈ tG := tg_of (i := 510) (by decide +kernel) (by decide +kernel)
theorem t_535 : Cond.code ⟨"NibbleTrieModel", "behind", "(II)I"⟩ prog_7_method_4_code 3 (some .int) ∈ tG := tg_of (i := 535) (by decide +kernel) (by decide +kernel)
theorem t_534 : Cond.static ⟨"NibbleTrieModel", "behind", "(II)I"⟩ ∈ tG := tg_of (i := 534) (by decide +kernel) (by decide +kernel)
theorem t_476 : Cond.code ⟨"NibbleTrieModel", "find", "(II)I"⟩ prog_7_method_5_code 4 (some .int) ∈ tG := tg_of (i := 476) (by decide +kernel) (by decide +kernel)
theorem t_475 : Cond.instanceMethod ⟨"NibbleTrieModel", "find", "(II)I"⟩ ∈ tG := tg_of (i := 475) (by decide +kernel) (by decide +kernel)
theorem ts_21 : Cond.selects "NibbleTrieModel" ⟨"NibbleTrieModel", "find", "(II)I"⟩ ⟨"NibbleTrieModel", "find", "(II)I"⟩ ∈ tG := ts_of (i := 21) (by decide +kernel) (by decide +kernel)
theorem t_571 : Cond.code ⟨"NibbleTrieModel", "copy", "(II)V"⟩ prog_7_method_6_code 4 none ∈ tG := tg_of (i := 571) (by decide +kernel) (by decide +kernel)
theorem t_570 : Cond.instanceMethod ⟨"NibbleTrieModel", "copy", "(II)V"⟩ ∈ tG := tg_of (i := 570) (by decide +kernel) (by decide +kernel)
theorem ts_37 : Cond.selects "NibbleTrieModel" ⟨"NibbleTrieModel", "copy", "(II)V"⟩ ⟨"NibbleTrieModel", "copy", "(II)V"⟩ ∈ tG := ts_of (i := 37) (by decide +kernel) (by decide +kernel)
theorem t_467 : Cond.code ⟨"NibbleTrieModel", "put", "(II)I"⟩ prog_7_method_7_code 5 (some .int) ∈ tG := tg_of (i := 467) (by decide +kernel) (by decide +kernel)
theorem t_465 : Cond.instanceMethod ⟨"NibbleTrieModel", "put", "(II)I"⟩ ∈ tG := tg_of (i := 465) (by decide +kernel) (by decide +kernel)
theorem t_466 : Cond.selects "NibbleTrieModel" ⟨"NibbleTrieModel", "put", "(II)I"⟩ ⟨"NibbleTrieModel", "put", "(II)I"⟩ ∈ tG := tg_of (i := 466) (by decide +kernel) (by decide +kernel)
theorem t_484 : Cond.code ⟨"NibbleTrieModel", "valueIn", "(II)I"⟩ prog_7_method_8_code 4 (some .int) ∈ tG := tg_of (i := 484) (by decide +kernel) (by decide +kernel)
theorem t_483 : Cond.instanceMethod ⟨"NibbleTrieModel", "valueIn", "(II)I"⟩ ∈ tG := tg_of (i := 483) (by decide +kernel) (by decide +kernel)
theorem ts_22 : Cond.selects "NibbleTrieModel" ⟨"NibbleTrieModel", "valueIn", "(II)I"⟩ ⟨"NibbleTrieModel", "valueIn", "(II)I"⟩ ∈ tG := ts_of (i := 22) (by decide +kernel) (by decide +kernel)
theorem t_480 : Cond.code ⟨"NibbleTrieModel", "get", "(I)I"⟩ prog_7_method_9_code 2 (some .int) ∈ tG := tg_of (i := 480) (by decide +kernel) (by decide +kernel)
theorem t_478 : Cond.instanceMethod ⟨"NibbleTrieModel", "get", "(I)I"⟩ ∈ tG := tg_of (i := 478) (by decide +kernel) (by decide +kernel)
theorem t_479 : Cond.selects "NibbleTrieModel" ⟨"NibbleTrieModel", "get", "(I)I"⟩ ⟨"NibbleTrieModel", "get", "(I)I"⟩ ∈ tG := tg_of (i := 479) (by decide +kernel) (by decide +kernel)
theorem t_488 : Cond.code ⟨"NibbleTrieModel", "size", "()I"⟩ prog_7_method_10_code 1 (some .int) ∈ tG := tg_of (i := 488) (by decide +kernel) (by decide +kernel)
theorem t_486 : Cond.instanceMethod ⟨"NibbleTrieModel", "size", "()I"⟩ ∈ tG := tg_of (i := 486) (by decide +kernel) (by decide +kernel)
theorem t_487 : Cond.selects "NibbleTrieModel" ⟨"NibbleTrieModel", "size", "()I"⟩ ⟨"NibbleTrieModel", "size", "()I"⟩ ∈ tG := tg_of (i := 487) (by decide +kernel) (by decide +kernel)
theorem t_508 : Cond.code ⟨"NibbleTrieModel", "members", "(II)I"⟩ prog_7_method_11_code 5 (some .int) ∈ tG := tg_of (i := 508) (by decide +kernel) (by decide +kernel)
theorem t_507 : Cond.instanceMethod ⟨"NibbleTrieModel", "members", "(II)I"⟩ ∈ tG := tg_of (i := 507) (by decide +kernel) (by decide +kernel)
theorem ts_26 : Cond.selects "NibbleTrieModel" ⟨"NibbleTrieModel", "members", "(II)I"⟩ ⟨"NibbleTrieModel", "members", "(II)I"⟩ ∈ tG := ts_of (i := 26) (by decide +kernel) (by decide +kernel)
theorem t_519 : Cond.code ⟨"NibbleTrieModel", "member", "(II)I"⟩ prog_7_method_12_code 4 (some .int) ∈ tG := tg_of (i := 519) (by decide +kernel) (by decide +kernel)
theorem t_518 : Cond.instanceMethod ⟨"NibbleTrieModel", "member", "(II)I"⟩ ∈ tG := tg_of (i := 518) (by decide +kernel) (by decide +kernel)
theorem ts_28 : Cond.selects "NibbleTrieModel" ⟨"NibbleTrieModel", "member", "(II)I"⟩ ⟨"NibbleTrieModel", "member", "(II)I"⟩ ∈ tG := ts_of (i := 28) (by decide +kernel) (by decide +kernel)
theorem t_515 : Cond.code ⟨"NibbleTrieModel", "common", "(II)I"⟩ prog_7_method_13_code 9 (some .int) ∈ tG := tg_of (i := 515) (by decide +kernel) (by decide +kernel)
theorem t_514 : Cond.instanceMethod ⟨"NibbleTrieModel", "common", "(II)I"⟩ ∈ tG := tg_of (i := 514) (by decide +kernel) (by decide +kernel)
theorem ts_27 : Cond.selects "NibbleTrieModel" ⟨"NibbleTrieModel", "common", "(II)I"⟩ ⟨"NibbleTrieModel", "common", "(II)I"⟩ ∈ tG := ts_of (i := 27) (by decide +kernel) (by decide +kernel)
theorem t_504 : Cond.code ⟨"NibbleTrieModel", "isBranch", "(II)Z"⟩ prog_7_method_14_code 4 (some .boolean) ∈ tG := tg_of (i := 504) (by decide +kernel) (by decide +kernel)
theorem t_503 : Cond.instanceMethod ⟨"NibbleTrieModel", "isBranch", "(II)Z"⟩ ∈ tG := tg_of (i := 503) (by decide +kernel) (by decide +kernel)
theorem ts_25 : Cond.selects "NibbleTrieModel" ⟨"NibbleTrieModel", "isBranch", "(II)Z"⟩ ⟨"NibbleTrieModel", "isBranch", "(II)Z"⟩ ∈ tG := ts_of (i := 25) (by decide +kernel) (by decide +kernel)
theorem t_500 : Cond.code ⟨"NibbleTrieModel", "place", "(II)I"⟩ prog_7_method_15_code 4 (some .int) ∈ tG := tg_of (i := 500) (by decide +kernel) (by decide +kernel)
theorem t_499 : Cond.instanceMethod ⟨"NibbleTrieModel", "place", "(II)I"⟩ ∈ tG := tg_of (i := 499) (by decide +kernel) (by decide +kernel)
theorem ts_24 : Cond.selects "NibbleTrieModel" ⟨"NibbleTrieModel", "place", "(II)I"⟩ ⟨"NibbleTrieModel", "place", "(II)I"⟩ ∈ tG := ts_of (i := 24) (by decide +kernel) (by decide +kernel)
theorem t_531 : Cond.code ⟨"NibbleTrieModel", "say", "(J)V"⟩ prog_7_method_16_code 3 none ∈ tG := tg_of (i := 531) (by decide +kernel) (by decide +kernel)
theorem t_530 : Cond.instanceMethod ⟨"NibbleTrieModel", "say", "(J)V"⟩ ∈ tG := tg_of (i := 530) (by decide +kernel) (by decide +kernel)
theorem ts_31 : Cond.selects "NibbleTrieModel" ⟨"NibbleTrieModel", "say", "(J)V"⟩ ⟨"NibbleTrieModel", "say", "(J)V"⟩ ∈ tG := ts_of (i := 31) (by decide +kernel) (by decide +kernel)
theorem t_527 : Cond.code ⟨"NibbleTrieModel", "reference", "(IIZ)V"⟩ prog_7_method_17_code 6 none ∈ tG := tg_of (i := 527) (by decide +kernel) (by decide +kernel)
theorem t_526 : Cond.instanceMethod ⟨"NibbleTrieModel", "reference", "(IIZ)V"⟩ ∈ tG := tg_of (i := 526) (by decide +kernel) (by decide +kernel)
theorem ts_30 : Cond.selects "NibbleTrieModel" ⟨"NibbleTrieModel", "reference", "(IIZ)V"⟩ ⟨"NibbleTrieModel", "reference", "(IIZ)V"⟩ ∈ tG := ts_of (i := 30) (by decide +kernel) (by decide +kernel)
theorem t_523 : Cond.code ⟨"NibbleTrieModel", "encode", "(II)V"⟩ prog_7_method_18_code 4 none ∈ tG := tg_of (i := 523) (by decide +kernel) (by decide +kernel)
theorem t_522 : Cond.instanceMethod ⟨"NibbleTrieModel", "encode", "(II)V"⟩ ∈ tG := tg_of (i := 522) (by decide +kernel) (by decide +kernel)
theorem ts_29 : Cond.selects "NibbleTrieModel" ⟨"NibbleTrieModel", "encode", "(II)V"⟩ ⟨"NibbleTrieModel", "encode", "(II)V"⟩ ∈ tG := ts_of (i := 29) (by decide +kernel) (by decide +kernel)
theorem t_542 : Cond.code ⟨"NibbleTrieModel", "mixed", "(JJ)J"⟩ prog_7_method_19_code 6 (some .long) ∈ tG := tg_of (i := 542) (by decide +kernel) (by decide +kernel)
theorem t_541 : Cond.static ⟨"NibbleTrieModel", "mixed", "(JJ)J"⟩ ∈ tG := tg_of (i := 541) (by decide +kernel) (by decide +kernel)
theorem t_539 : Cond.code ⟨"NibbleTrieModel", "digestOfWords", "()J"⟩ prog_7_method_20_code 4 (some .long) ∈ tG := tg_of (i := 539) (by decide +kernel) (by decide +kernel)
theorem t_538 : Cond.instanceMethod ⟨"NibbleTrieModel", "digestOfWords", "()J"⟩ ∈ tG := tg_of (i := 538) (by decide +kernel) (by decide +kernel)
theorem ts_32 : Cond.selects "NibbleTrieModel" ⟨"NibbleTrieModel", "digestOfWords", "()J"⟩ ⟨"NibbleTrieModel", "digestOfWords", "()J"⟩ ∈ tG := ts_of (i := 32) (by decide +kernel) (by decide +kernel)
theorem t_496 : Cond.code ⟨"NibbleTrieModel", "build", "(I)V"⟩ prog_7_method_21_code 6 none ∈ tG := tg_of (i := 496) (by decide +kernel) (by decide +kernel)
theorem t_495 : Cond.instanceMethod ⟨"NibbleTrieModel", "build", "(I)V"⟩ ∈ tG := tg_of (i := 495) (by decide +kernel) (by decide +kernel)
theorem ts_23 : Cond.selects "NibbleTrieModel" ⟨"NibbleTrieModel", "build", "(I)V"⟩ ⟨"NibbleTrieModel", "build", "(I)V"⟩ ∈ tG := ts_of (i := 23) (by decide +kernel) (by decide +kernel)
theorem t_547 : Cond.code ⟨"NibbleTrieModel", "rootOf", "(I)J"⟩ prog_7_method_22_code 2 (some .long) ∈ tG := tg_of (i := 547) (by decide +kernel) (by decide +kernel)
theorem t_546 : Cond.instanceMethod ⟨"NibbleTrieModel", "rootOf", "(I)J"⟩ ∈ tG := tg_of (i := 546) (by decide +kernel) (by decide +kernel)
theorem ts_33 : Cond.selects "NibbleTrieModel" ⟨"NibbleTrieModel", "rootOf", "(I)J"⟩ ⟨"NibbleTrieModel", "rootOf", "(I)J"⟩ ∈ tG := ts_of (i := 33) (by decide +kernel) (by decide +kernel)
theorem t_492 : Cond.code ⟨"NibbleTrieModel", "root", "()J"⟩ prog_7_method_23_code 1 (some .long) ∈ tG := tg_of (i := 492) (by decide +kernel) (by decide +kernel)
theorem t_490 : Cond.instanceMethod ⟨"NibbleTrieModel", "root", "()J"⟩ ∈ tG := tg_of (i := 490) (by decide +kernel) (by decide +kernel)
theorem t_491 : Cond.selects "NibbleTrieModel" ⟨"NibbleTrieModel", "root", "()J"⟩ ⟨"NibbleTrieModel", "root", "()J"⟩ ∈ tG := tg_of (i := 491) (by decide +kernel) (by decide +kernel)
theorem t_551 : Cond.code ⟨"NibbleTrieModel", "count", "(I)I"⟩ prog_7_method_24_code 8 (some .int) ∈ tG := tg_of (i := 551) (by decide +kernel) (by decide +kernel)
theorem t_549 : Cond.instanceMethod ⟨"NibbleTrieModel", "count", "(I)I"⟩ ∈ tG := tg_of (i := 549) (by decide +kernel) (by decide +kernel)
theorem t_550 : Cond.selects "NibbleTrieModel" ⟨"NibbleTrieModel", "count", "(I)I"⟩ ⟨"NibbleTrieModel", "count", "(I)I"⟩ ∈ tG := tg_of (i := 550) (by decide +kernel) (by decide +kernel)
theorem t_563 : Cond.code ⟨"NibbleTrieModel", "same", "(II)Z"⟩ prog_7_method_25_code 10 (some .boolean) ∈ tG := tg_of (i := 563) (by decide +kernel) (by decide +kernel)
theorem t_562 : Cond.instanceMethod ⟨"NibbleTrieModel", "same", "(II)Z"⟩ ∈ tG := tg_of (i := 562) (by decide +kernel) (by decide +kernel)
theorem ts_35 : Cond.selects "NibbleTrieModel" ⟨"NibbleTrieModel", "same", "(II)Z"⟩ ⟨"NibbleTrieModel", "same", "(II)Z"⟩ ∈ tG := ts_of (i := 35) (by decide +kernel) (by decide +kernel)
theorem t_599 : Cond.code ⟨"NibbleTrieModel", "stands", "(I)Z"⟩ prog_7_method_26_code 3 (some .boolean) ∈ tG := tg_of (i := 599) (by decide +kernel) (by decide +kernel)
theorem t_598 : Cond.instanceMethod ⟨"NibbleTrieModel", "stands", "(I)Z"⟩ ∈ tG := tg_of (i := 598) (by decide +kernel) (by decide +kernel)
theorem ts_39 : Cond.selects "NibbleTrieModel" ⟨"NibbleTrieModel", "stands", "(I)Z"⟩ ⟨"NibbleTrieModel", "stands", "(I)Z"⟩ ∈ tG := ts_of (i := 39) (by decide +kernel) (by decide +kernel)
theorem t_559 : Cond.code ⟨"NibbleTrieModel", "has", "(I)Z"⟩ prog_7_method_27_code 4 (some .boolean) ∈ tG := tg_of (i := 559) (by decide +kernel) (by decide +kernel)
theorem t_558 : Cond.instanceMethod ⟨"NibbleTrieModel", "has", "(I)Z"⟩ ∈ tG := tg_of (i := 558) (by decide +kernel) (by decide +kernel)
theorem ts_34 : Cond.selects "NibbleTrieModel" ⟨"NibbleTrieModel", "has", "(I)Z"⟩ ⟨"NibbleTrieModel", "has", "(I)Z"⟩ ∈ tG := ts_of (i := 34) (by decide +kernel) (by decide +kernel)
theorem t_567 : Cond.code ⟨"NibbleTrieModel", "back", "()V"⟩ prog_7_method_28_code 1 none ∈ tG := tg_of (i := 567) (by decide +kernel) (by decide +kernel)
theorem t_566 : Cond.instanceMethod ⟨"NibbleTrieModel", "back", "()V"⟩ ∈ tG := tg_of (i := 566) (by decide +kernel) (by decide +kernel)
theorem ts_36 : Cond.selects "NibbleTrieModel" ⟨"NibbleTrieModel", "back", "()V"⟩ ⟨"NibbleTrieModel", "back", "()V"⟩ ∈ tG := ts_of (i := 36) (by decide +kernel) (by decide +kernel)
theorem t_555 : Cond.code ⟨"NibbleTrieModel", "commit", "(I)I"⟩ prog_7_method_29_code 4 (some .int) ∈ tG := tg_of (i := 555) (by decide +kernel) (by decide +kernel)
theorem t_553 : Cond.instanceMethod ⟨"NibbleTrieModel", "commit", "(I)I"⟩ ∈ tG := tg_of (i := 553) (by decide +kernel) (by decide +kernel)
theorem t_554 : Cond.selects "NibbleTrieModel" ⟨"NibbleTrieModel", "commit", "(I)I"⟩ ⟨"NibbleTrieModel", "commit", "(I)I"⟩ ∈ tG := tg_of (i := 554) (by decide +kernel) (by decide +kernel)
theorem t_575 : Cond.code ⟨"NibbleTrieModel", "crash", "()I"⟩ prog_7_method_30_code 1 (some .int) ∈ tG := tg_of (i := 575) (by decide +kernel) (by decide +kernel)
theorem t_573 : Cond.instanceMethod ⟨"NibbleTrieModel", "crash", "()I"⟩ ∈ tG := tg_of (i := 573) (by decide +kernel) (by decide +kernel)
theorem t_574 : Cond.selects "NibbleTrieModel" ⟨"NibbleTrieModel", "crash", "()I"⟩ ⟨"NibbleTrieModel", "crash", "()I"⟩ ∈ tG := tg_of (i := 574) (by decide +kernel) (by decide +kernel)
theorem t_579 : Cond.code ⟨"NibbleTrieModel", "versions", "()I"⟩ prog_7_method_31_code 1 (some .int) ∈ tG := tg_of (i := 579) (by decide +kernel) (by decide +kernel)
theorem t_577 : Cond.instanceMethod ⟨"NibbleTrieModel", "versions", "()I"⟩ ∈ tG := tg_of (i := 577) (by decide +kernel) (by decide +kernel)
theorem t_578 : Cond.selects "NibbleTrieModel" ⟨"NibbleTrieModel", "versions", "()I"⟩ ⟨"NibbleTrieModel", "versions", "()I"⟩ ∈ tG := tg_of (i := 578) (by decide +kernel) (by decide +kernel)
theorem t_587 : Cond.code ⟨"NibbleTrieModel", "isVersion", "(I)Z"⟩ prog_7_method_32_code 2 (some .boolean) ∈ tG := tg_of (i := 587) (by decide +kernel) (by decide +kernel)
theorem t_586 : Cond.instanceMethod ⟨"NibbleTrieModel", "isVersion", "(I)Z"⟩ ∈ tG := tg_of (i := 586) (by decide +kernel) (by decide +kernel)
theorem ts_38 : Cond.selects "NibbleTrieModel" ⟨"NibbleTrieModel", "isVersion", "(I)Z"⟩ ⟨"NibbleTrieModel", "isVersion", "(I)Z"⟩ ∈ tG := ts_of (i := 38) (by decide +kernel) (by decide +kernel)
theorem t_583 : Cond.code ⟨"NibbleTrieModel", "at", "(II)I"⟩ prog_7_method_33_code 3 (some .int) ∈ tG := tg_of (i := 583) (by decide +kernel) (by decide +kernel)
theorem t_581 : Cond.instanceMethod ⟨"NibbleTrieModel", "at", "(II)I"⟩ ∈ tG := tg_of (i := 581) (by decide +kernel) (by decide +kernel)
theorem t_582 : Cond.selects "NibbleTrieModel" ⟨"NibbleTrieModel", "at", "(II)I"⟩ ⟨"NibbleTrieModel", "at", "(II)I"⟩ ∈ tG := tg_of (i := 582) (by decide +kernel) (by decide +kernel)
theorem t_591 : Cond.code ⟨"NibbleTrieModel", "rootAt", "(I)J"⟩ prog_7_method_34_code 2 (some .long) ∈ tG := tg_of (i := 591) (by decide +kernel) (by decide +kernel)
theorem t_589 : Cond.instanceMethod ⟨"NibbleTrieModel", "rootAt", "(I)J"⟩ ∈ tG := tg_of (i := 589) (by decide +kernel) (by decide +kernel)
theorem t_590 : Cond.selects "NibbleTrieModel" ⟨"NibbleTrieModel", "rootAt", "(I)J"⟩ ⟨"NibbleTrieModel", "rootAt", "(I)J"⟩ ∈ tG := tg_of (i := 590) (by decide +kernel) (by decide +kernel)
theorem t_595 : Cond.code ⟨"NibbleTrieModel", "stored", "()I"⟩ prog_7_method_35_code 3 (some .int) ∈ tG := tg_of (i := 595) (by decide +kernel) (by decide +kernel)
theorem t_593 : Cond.instanceMethod ⟨"NibbleTrieModel", "stored", "()I"⟩ ∈ tG := tg_of (i := 593) (by decide +kernel) (by decide +kernel)
theorem t_594 : Cond.selects "NibbleTrieModel" ⟨"NibbleTrieModel", "stored", "()I"⟩ ⟨"NibbleTrieModel", "stored", "()I"⟩ ∈ tG := tg_of (i := 594) (by decide +kernel) (by decide +kernel)
theorem t_611 : Cond.code ⟨"NibbleTrieModel", "leads", "(III)Z"⟩ prog_7_method_36_code 7 (some .boolean) ∈ tG := tg_of (i := 611) (by decide +kernel) (by decide +kernel)
theorem t_610 : Cond.instanceMethod ⟨"NibbleTrieModel", "leads", "(III)Z"⟩ ∈ tG := tg_of (i := 610) (by decide +kernel) (by decide +kernel)
theorem ts_41 : Cond.selects "NibbleTrieModel" ⟨"NibbleTrieModel", "leads", "(III)Z"⟩ ⟨"NibbleTrieModel", "leads", "(III)Z"⟩ ∈ tG := ts_of (i := 41) (by decide +kernel) (by decide +kernel)
theorem t_607 : Cond.code ⟨"NibbleTrieModel", "usesOf", "(I)I"⟩ prog_7_method_37_code 6 (some .int) ∈ tG := tg_of (i := 607) (by decide +kernel) (by decide +kernel)
theorem t_606 : Cond.instanceMethod ⟨"NibbleTrieModel", "usesOf", "(I)I"⟩ ∈ tG := tg_of (i := 606) (by decide +kernel) (by decide +kernel)
theorem ts_40 : Cond.selects "NibbleTrieModel" ⟨"NibbleTrieModel", "usesOf", "(I)I"⟩ ⟨"NibbleTrieModel", "usesOf", "(I)I"⟩ ∈ tG := ts_of (i := 40) (by decide +kernel) (by decide +kernel)
theorem t_603 : Cond.code ⟨"NibbleTrieModel", "uses", "(J)I"⟩ prog_7_method_38_code 5 (some .int) ∈ tG := tg_of (i := 603) (by decide +kernel) (by decide +kernel)
theorem t_601 : Cond.instanceMethod ⟨"NibbleTrieModel", "uses", "(J)I"⟩ ∈ tG := tg_of (i := 601) (by decide +kernel) (by decide +kernel)
theorem t_602 : Cond.selects "NibbleTrieModel" ⟨"NibbleTrieModel", "uses", "(J)I"⟩ ⟨"NibbleTrieModel", "uses", "(J)I"⟩ ∈ tG := tg_of (i := 602) (by decide +kernel) (by decide +kernel)
theorem t_619 : Cond.code ⟨"NibbleTrieModel", "append", "()V"⟩ prog_7_method_39_code 2 none ∈ tG := tg_of (i := 619) (by decide +kernel) (by decide +kernel)
theorem t_618 : Cond.instanceMethod ⟨"NibbleTrieModel", "append", "()V"⟩ ∈ tG := tg_of (i := 618) (by decide +kernel) (by decide +kernel)
theorem ts_42 : Cond.selects "NibbleTrieModel" ⟨"NibbleTrieModel", "append", "()V"⟩ ⟨"NibbleTrieModel", "append", "()V"⟩ ∈ tG := ts_of (i := 42) (by decide +kernel) (by decide +kernel)
theorem t_615 : Cond.code ⟨"NibbleTrieModel", "prove", "(II)I"⟩ prog_7_method_40_code 6 (some .int) ∈ tG := tg_of (i := 615) (by decide +kernel) (by decide +kernel)
theorem t_613 : Cond.instanceMethod ⟨"NibbleTrieModel", "prove", "(II)I"⟩ ∈ tG := tg_of (i := 613) (by decide +kernel) (by decide +kernel)
theorem t_614 : Cond.selects "NibbleTrieModel" ⟨"NibbleTrieModel", "prove", "(II)I"⟩ ⟨"NibbleTrieModel", "prove", "(II)I"⟩ ∈ tG := tg_of (i := 614) (by decide +kernel) (by decide +kernel)
theorem t_623 : Cond.code ⟨"NibbleTrieModel", "word", "(I)J"⟩ prog_7_method_41_code 2 (some .long) ∈ tG := tg_of (i := 623) (by decide +kernel) (by decide +kernel)
theorem t_621 : Cond.instanceMethod ⟨"NibbleTrieModel", "word", "(I)J"⟩ ∈ tG := tg_of (i := 621) (by decide +kernel) (by decide +kernel)
theorem t_622 : Cond.selects "NibbleTrieModel" ⟨"NibbleTrieModel", "word", "(I)J"⟩ ⟨"NibbleTrieModel", "word", "(I)J"⟩ ∈ tG := tg_of (i := 622) (by decide +kernel) (by decide +kernel)
theorem t_627 : Cond.code ⟨"NibbleTrieModel", "alter", "(IJ)Z"⟩ prog_7_method_42_code 4 (some .boolean) ∈ tG := tg_of (i := 627) (by decide +kernel) (by decide +kernel)
theorem t_625 : Cond.instanceMethod ⟨"NibbleTrieModel", "alter", "(IJ)Z"⟩ ∈ tG := tg_of (i := 625) (by decide +kernel) (by decide +kernel)
theorem t_626 : Cond.selects "NibbleTrieModel" ⟨"NibbleTrieModel", "alter", "(IJ)Z"⟩ ⟨"NibbleTrieModel", "alter", "(IJ)Z"⟩ ∈ tG := tg_of (i := 626) (by decide +kernel) (by decide +kernel)
theorem t_631 : Cond.code ⟨"NibbleTrieModel", "cut", "()I"⟩ prog_7_method_43_code 1 (some .int) ∈ tG := tg_of (i := 631) (by decide +kernel) (by decide +kernel)
theorem t_629 : Cond.instanceMethod ⟨"NibbleTrieModel", "cut", "()I"⟩ ∈ tG := tg_of (i := 629) (by decide +kernel) (by decide +kernel)
theorem t_630 : Cond.selects "NibbleTrieModel" ⟨"NibbleTrieModel", "cut", "()I"⟩ ⟨"NibbleTrieModel", "cut", "()I"⟩ ∈ tG := tg_of (i := 630) (by decide +kernel) (by decide +kernel)
theorem t_638 : Cond.code ⟨"NibbleTrieModel", "few", "(J)Z"⟩ prog_7_method_44_code 2 (some .boolean) ∈ tG := tg_of (i := 638) (by decide +kernel) (by decide +kernel)
theorem t_637 : Cond.static ⟨"NibbleTrieModel", "few", "(J)Z"⟩ ∈ tG := tg_of (i := 637) (by decide +kernel) (by decide +kernel)
theorem t_646 : Cond.code ⟨"NibbleTrieModel", "digestOf", "(II)J"⟩ prog_7_method_45_code 6 (some .long) ∈ tG := tg_of (i := 646) (by decide +kernel) (by decide +kernel)
theorem t_645 : Cond.instanceMethod ⟨"NibbleTrieModel", "digestOf", "(II)J"⟩ ∈ tG := tg_of (i := 645) (by decide +kernel) (by decide +kernel)
theorem ts_44 : Cond.selects "NibbleTrieModel" ⟨"NibbleTrieModel", "digestOf", "(II)J"⟩ ⟨"NibbleTrieModel", "digestOf", "(II)J"⟩ ∈ tG := ts_of (i := 44) (by decide +kernel) (by decide +kernel)
theorem t_642 : Cond.code ⟨"NibbleTrieModel", "refer", "(II)Z"⟩ prog_7_method_46_code 3 (some .boolean) ∈ tG := tg_of (i := 642) (by decide +kernel) (by decide +kernel)
theorem t_641 : Cond.instanceMethod ⟨"NibbleTrieModel", "refer", "(II)Z"⟩ ∈ tG := tg_of (i := 641) (by decide +kernel) (by decide +kernel)
theorem ts_43 : Cond.selects "NibbleTrieModel" ⟨"NibbleTrieModel", "refer", "(II)Z"⟩ ⟨"NibbleTrieModel", "refer", "(II)Z"⟩ ∈ tG := ts_of (i := 43) (by decide +kernel) (by decide +kernel)
theorem t_660 : Cond.code ⟨"NibbleTrieModel", "branchEnd", "()I"⟩ prog_7_method_47_code 3 (some .int) ∈ tG := tg_of (i := 660) (by decide +kernel) (by decide +kernel)
theorem t_659 : Cond.instanceMethod ⟨"NibbleTrieModel", "branchEnd", "()I"⟩ ∈ tG := tg_of (i := 659) (by decide +kernel) (by decide +kernel)
theorem ts_47 : Cond.selects "NibbleTrieModel" ⟨"NibbleTrieModel", "branchEnd", "()I"⟩ ⟨"NibbleTrieModel", "branchEnd", "()I"⟩ ∈ tG := ts_of (i := 47) (by decide +kernel) (by decide +kernel)
theorem t_656 : Cond.code ⟨"NibbleTrieModel", "throughBranch", "()I"⟩ prog_7_method_48_code 6 (some .int) ∈ tG := tg_of (i := 656) (by decide +kernel) (by decide +kernel)
theorem t_655 : Cond.instanceMethod ⟨"NibbleTrieModel", "throughBranch", "()I"⟩ ∈ tG := tg_of (i := 655) (by decide +kernel) (by decide +kernel)
theorem ts_46 : Cond.selects "NibbleTrieModel" ⟨"NibbleTrieModel", "throughBranch", "()I"⟩ ⟨"NibbleTrieModel", "throughBranch", "()I"⟩ ∈ tG := ts_of (i := 46) (by decide +kernel) (by decide +kernel)
theorem t_650 : Cond.code ⟨"NibbleTrieModel", "throughTwo", "()I"⟩ prog_7_method_49_code 2 (some .int) ∈ tG := tg_of (i := 650) (by decide +kernel) (by decide +kernel)
theorem t_649 : Cond.instanceMethod ⟨"NibbleTrieModel", "throughTwo", "()I"⟩ ∈ tG := tg_of (i := 649) (by decide +kernel) (by decide +kernel)
theorem ts_45 : Cond.selects "NibbleTrieModel" ⟨"NibbleTrieModel", "throughTwo", "()I"⟩ ⟨"NibbleTrieModel", "throughTwo", "()I"⟩ ∈ tG := ts_of (i := 45) (by decide +kernel) (by decide +kernel)
theorem t_635 : Cond.code ⟨"NibbleTrieModel", "verify", "(JII)Z"⟩ prog_7_method_50_code 8 (some .boolean) ∈ tG := tg_of (i := 635) (by decide +kernel) (by decide +kernel)
theorem t_633 : Cond.instanceMethod ⟨"NibbleTrieModel", "verify", "(JII)Z"⟩ ∈ tG := tg_of (i := 633) (by decide +kernel) (by decide +kernel)
theorem t_634 : Cond.selects "NibbleTrieModel" ⟨"NibbleTrieModel", "verify", "(JII)Z"⟩ ⟨"NibbleTrieModel", "verify", "(JII)Z"⟩ ∈ tG := tg_of (i := 634) (by decide +kernel) (by decide +kernel)
theorem t_142 : Cond.code ⟨"NibbleTrie$Path", "isNumber", "(J)Z"⟩ prog_2_method_2_code 2 (some .boolean) ∈ tG := tg_of (i := 142) (by decide +kernel) (by decide +kernel)
theorem t_7 : Cond.initialized "NibbleTrie$Path" ∈ tG := tg_of (i := 7) (by decide +kernel) (by decide +kernel)
theorem t_141 : Cond.static ⟨"NibbleTrie$Path", "isNumber", "(J)Z"⟩ ∈ tG := tg_of (i := 141) (by decide +kernel) (by decide +kernel)
theorem t_168 : Cond.code ⟨"NibbleTrie$Path", "length", "(I)I"⟩ prog_2_method_3_code 1 (some .int) ∈ tG := tg_of (i := 168) (by decide +kernel) (by decide +kernel)
theorem t_167 : Cond.static ⟨"NibbleTrie$Path", "length", "(I)I"⟩ ∈ tG := tg_of (i := 167) (by decide +kernel) (by decide +kernel)
theorem t_184 : Cond.code ⟨"NibbleTrie$Path", "nibble", "(II)I"⟩ prog_2_method_4_code 2 (some .int) ∈ tG := tg_of (i := 184) (by decide +kernel) (by decide +kernel)
theorem t_183 : Cond.static ⟨"NibbleTrie$Path", "nibble", "(II)I"⟩ ∈ tG := tg_of (i := 183) (by decide +kernel) (by decide +kernel)
theorem t_250 : Cond.code ⟨"NibbleTrie$Path", "front", "(II)I"⟩ prog_2_method_5_code 2 (some .int) ∈ tG := tg_of (i := 250) (by decide +kernel) (by decide +kernel)
theorem t_249 : Cond.static ⟨"NibbleTrie$Path", "front", "(II)I"⟩ ∈ tG := tg_of (i := 249) (by decide +kernel) (by decide +kernel)
theorem t_235 : Cond.code ⟨"NibbleTrie$Path", "without", "(II)I"⟩ prog_2_method_6_code 3 (some .int) ∈ tG := tg_of (i := 235) (by decide +kernel) (by decide +kernel)
theorem t_234 : Cond.static ⟨"NibbleTrie$Path", "without", "(II)I"⟩ ∈ tG := tg_of (i := 234) (by decide +kernel) (by decide +kernel)
theorem t_349 : Cond.code ⟨"NibbleTrie$Path", "begins", "(II)Z"⟩ prog_2_method_7_code 3 (some .boolean) ∈ tG := tg_of (i := 349) (by decide +kernel) (by decide +kernel)
theorem t_348 : Cond.static ⟨"NibbleTrie$Path", "begins", "(II)Z"⟩ ∈ tG := tg_of (i := 348) (by decide +kernel) (by decide +kernel)
theorem t_180 : Cond.code ⟨"NibbleTrie$Path", "commonLength", "(II)I"⟩ prog_2_method_8_code 4 (some .int) ∈ tG := tg_of (i := 180) (by decide +kernel) (by decide +kernel)
theorem t_179 : Cond.static ⟨"NibbleTrie$Path", "commonLength", "(II)I"⟩ ∈ tG := tg_of (i := 179) (by decide +kernel) (by decide +kernel)
theorem t_165 : Cond.code ⟨"NibbleTrie$Path", "order", "(I)I"⟩ prog_2_method_9_code 2 (some .int) ∈ tG := tg_of (i := 165) (by decide +kernel) (by decide +kernel)
theorem t_164 : Cond.static ⟨"NibbleTrie$Path", "order", "(I)I"⟩ ∈ tG := tg_of (i := 164) (by decide +kernel) (by decide +kernel)
theorem t_158 : Cond.code ⟨"NibbleTrie$PathMap", "rowOf", "(I)I"⟩ prog_3_method_2_code 3 (some .int) ∈ tG := tg_of (i := 158) (by decide +kernel) (by decide +kernel)
theorem t_3 : Cond.initialized "NibbleTrie$PathMap" ∈ tG := tg_of (i := 3) (by decide +kernel) (by decide +kernel)
theorem t_156 : Cond.instanceMethod ⟨"NibbleTrie$PathMap", "rowOf", "(I)I"⟩ ∈ tG := tg_of (i := 156) (by decide +kernel) (by decide +kernel)
theorem t_157 : Cond.selects "NibbleTrie$PathMap" ⟨"NibbleTrie$PathMap", "rowOf", "(I)I"⟩ ⟨"NibbleTrie$PathMap", "rowOf", "(I)I"⟩ ∈ tG := tg_of (i := 157) (by decide +kernel) (by decide +kernel)
theorem t_214 : Cond.code ⟨"NibbleTrie$PathMap", "valueOf", "(I)I"⟩ prog_3_method_3_code 3 (some .int) ∈ tG := tg_of (i := 214) (by decide +kernel) (by decide +kernel)
theorem t_212 : Cond.instanceMethod ⟨"NibbleTrie$PathMap", "valueOf", "(I)I"⟩ ∈ tG := tg_of (i := 212) (by decide +kernel) (by decide +kernel)
theorem t_213 : Cond.selects "NibbleTrie$PathMap" ⟨"NibbleTrie$PathMap", "valueOf", "(I)I"⟩ ⟨"NibbleTrie$PathMap", "valueOf", "(I)I"⟩ ∈ tG := tg_of (i := 213) (by decide +kernel) (by decide +kernel)
theorem t_162 : Cond.code ⟨"NibbleTrie$PathMap", "insert", "(II)V"⟩ prog_3_method_4_code 4 none ∈ tG := tg_of (i := 162) (by decide +kernel) (by decide +kernel)
theorem t_160 : Cond.instanceMethod ⟨"NibbleTrie$PathMap", "insert", "(II)V"⟩ ∈ tG := tg_of (i := 160) (by decide +kernel) (by decide +kernel)
theorem t_161 : Cond.selects "NibbleTrie$PathMap" ⟨"NibbleTrie$PathMap", "insert", "(II)V"⟩ ⟨"NibbleTrie$PathMap", "insert", "(II)V"⟩ ∈ tG := tg_of (i := 161) (by decide +kernel) (by decide +kernel)
theorem t_206 : Cond.code ⟨"NibbleTrie$PathMap", "remove", "(I)V"⟩ prog_3_method_5_code 3 none ∈ tG := tg_of (i := 206) (by decide +kernel) (by decide +kernel)
theorem t_204 : Cond.instanceMethod ⟨"NibbleTrie$PathMap", "remove", "(I)V"⟩ ∈ tG := tg_of (i := 204) (by decide +kernel) (by decide +kernel)
theorem t_205 : Cond.selects "NibbleTrie$PathMap" ⟨"NibbleTrie$PathMap", "remove", "(I)V"⟩ ⟨"NibbleTrie$PathMap", "remove", "(I)V"⟩ ∈ tG := tg_of (i := 205) (by decide +kernel) (by decide +kernel)
theorem t_286 : Cond.code ⟨"NibbleTrie$PathMap", "copy", "(LNibbleTrie$PathMap;)V"⟩ prog_3_method_6_code 2 none ∈ tG := tg_of (i := 286) (by decide +kernel) (by decide +kernel)
theorem t_284 : Cond.instanceMethod ⟨"NibbleTrie$PathMap", "copy", "(LNibbleTrie$PathMap;)V"⟩ ∈ tG := tg_of (i := 284) (by decide +kernel) (by decide +kernel)
theorem t_285 : Cond.selects "NibbleTrie$PathMap" ⟨"NibbleTrie$PathMap", "copy", "(LNibbleTrie$PathMap;)V"⟩ ⟨"NibbleTrie$PathMap", "copy", "(LNibbleTrie$PathMap;)V"⟩ ∈ tG := tg_of (i := 285) (by decide +kernel) (by decide +kernel)
theorem t_196 : Cond.code ⟨"NibbleTrie$PathMap", "endsAt", "(II)Z"⟩ prog_3_method_7_code 3 (some .boolean) ∈ tG := tg_of (i := 196) (by decide +kernel) (by decide +kernel)
theorem t_194 : Cond.instanceMethod ⟨"NibbleTrie$PathMap", "endsAt", "(II)Z"⟩ ∈ tG := tg_of (i := 194) (by decide +kernel) (by decide +kernel)
theorem t_195 : Cond.selects "NibbleTrie$PathMap" ⟨"NibbleTrie$PathMap", "endsAt", "(II)Z"⟩ ⟨"NibbleTrie$PathMap", "endsAt", "(II)Z"⟩ ∈ tG := tg_of (i := 195) (by decide +kernel) (by decide +kernel)
theorem t_201 : Cond.code ⟨"NibbleTrie$PathMap", "endOfChild", "(IIII)I"⟩ prog_3_method_8_code 6 (some .int) ∈ tG := tg_of (i := 201) (by decide +kernel) (by decide +kernel)
theorem t_199 : Cond.instanceMethod ⟨"NibbleTrie$PathMap", "endOfChild", "(IIII)I"⟩ ∈ tG := tg_of (i := 199) (by decide +kernel) (by decide +kernel)
theorem t_200 : Cond.selects "NibbleTrie$PathMap" ⟨"NibbleTrie$PathMap", "endOfChild", "(IIII)I"⟩ ⟨"NibbleTrie$PathMap", "endOfChild", "(IIII)I"⟩ ∈ tG := tg_of (i := 200) (by decide +kernel) (by decide +kernel)
theorem t_358 : Cond.code ⟨"NibbleTrie$Proof", "has", "(I)Z"⟩ prog_4_method_2_code 2 (some .boolean) ∈ tG := tg_of (i := 358) (by decide +kernel) (by decide +kernel)
theorem t_4 : Cond.initialized "NibbleTrie$Proof" ∈ tG := tg_of (i := 4) (by decide +kernel) (by decide +kernel)
theorem t_356 : Cond.instanceMethod ⟨"NibbleTrie$Proof", "has", "(I)Z"⟩ ∈ tG := tg_of (i := 356) (by decide +kernel) (by decide +kernel)
theorem t_357 : Cond.selects "NibbleTrie$Proof" ⟨"NibbleTrie$Proof", "has", "(I)Z"⟩ ⟨"NibbleTrie$Proof", "has", "(I)Z"⟩ ∈ tG := tg_of (i := 357) (by decide +kernel) (by decide +kernel)
theorem t_374 : Cond.code ⟨"NibbleTrie$Proof", "shows", "(JIJ)Z"⟩ prog_4_method_3_code 7 (some .boolean) ∈ tG := tg_of (i := 374) (by decide +kernel) (by decide +kernel)
theorem t_372 : Cond.instanceMethod ⟨"NibbleTrie$Proof", "shows", "(JIJ)Z"⟩ ∈ tG := tg_of (i := 372) (by decide +kernel) (by decide +kernel)
theorem t_373 : Cond.selects "NibbleTrie$Proof" ⟨"NibbleTrie$Proof", "shows", "(JIJ)Z"⟩ ⟨"NibbleTrie$Proof", "shows", "(JIJ)Z"⟩ ∈ tG := tg_of (i := 373) (by decide +kernel) (by decide +kernel)
theorem t_389 : Cond.code ⟨"NibbleTrie$Proof", "end", "(J)V"⟩ prog_4_method_4_code 3 none ∈ tG := tg_of (i := 389) (by decide +kernel) (by decide +kernel)
theorem t_388 : Cond.instanceMethod ⟨"NibbleTrie$Proof", "end", "(J)V"⟩ ∈ tG := tg_of (i := 388) (by decide +kernel) (by decide +kernel)
theorem ts_18 : Cond.selects "NibbleTrie$Proof" ⟨"NibbleTrie$Proof", "end", "(J)V"⟩ ⟨"NibbleTrie$Proof", "end", "(J)V"⟩ ∈ tG := ts_of (i := 18) (by decide +kernel) (by decide +kernel)
theorem t_382 : Cond.code ⟨"NibbleTrie$Proof", "hasReference", "(I)Z"⟩ prog_4_method_5_code 2 (some .boolean) ∈ tG := tg_of (i := 382) (by decide +kernel) (by decide +kernel)
theorem t_381 : Cond.instanceMethod ⟨"NibbleTrie$Proof", "hasReference", "(I)Z"⟩ ∈ tG := tg_of (i := 381) (by decide +kernel) (by decide +kernel)
theorem ts_17 : Cond.selects "NibbleTrie$Proof" ⟨"NibbleTrie$Proof", "hasReference", "(I)Z"⟩ ⟨"NibbleTrie$Proof", "hasReference", "(I)Z"⟩ ∈ tG := ts_of (i := 17) (by decide +kernel) (by decide +kernel)
theorem t_378 : Cond.code ⟨"NibbleTrie$Proof", "takeTopReference", "(J)V"⟩ prog_4_method_6_code 3 none ∈ tG := tg_of (i := 378) (by decide +kernel) (by decide +kernel)
theorem t_377 : Cond.instanceMethod ⟨"NibbleTrie$Proof", "takeTopReference", "(J)V"⟩ ∈ tG := tg_of (i := 377) (by decide +kernel) (by decide +kernel)
theorem ts_16 : Cond.selects "NibbleTrie$Proof" ⟨"NibbleTrie$Proof", "takeTopReference", "(J)V"⟩ ⟨"NibbleTrie$Proof", "takeTopReference", "(J)V"⟩ ∈ tG := ts_of (i := 16) (by decide +kernel) (by decide +kernel)
theorem t_399 : Cond.code ⟨"NibbleTrie$Proof", "followPair", "(JJ)V"⟩ prog_4_method_7_code 9 none ∈ tG := tg_of (i := 399) (by decide +kernel) (by decide +kernel)
theorem t_398 : Cond.instanceMethod ⟨"NibbleTrie$Proof", "followPair", "(JJ)V"⟩ ∈ tG := tg_of (i := 398) (by decide +kernel) (by decide +kernel)
theorem ts_20 : Cond.selects "NibbleTrie$Proof" ⟨"NibbleTrie$Proof", "followPair", "(JJ)V"⟩ ⟨"NibbleTrie$Proof", "followPair", "(JJ)V"⟩ ∈ tG := ts_of (i := 20) (by decide +kernel) (by decide +kernel)
theorem t_393 : Cond.code ⟨"NibbleTrie$Proof", "followDigest", "(J)V"⟩ prog_4_method_8_code 7 none ∈ tG := tg_of (i := 393) (by decide +kernel) (by decide +kernel)
theorem t_392 : Cond.instanceMethod ⟨"NibbleTrie$Proof", "followDigest", "(J)V"⟩ ∈ tG := tg_of (i := 392) (by decide +kernel) (by decide +kernel)
theorem ts_19 : Cond.selects "NibbleTrie$Proof" ⟨"NibbleTrie$Proof", "followDigest", "(J)V"⟩ ⟨"NibbleTrie$Proof", "followDigest", "(J)V"⟩ ∈ tG := ts_of (i := 19) (by decide +kernel) (by decide +kernel)
theorem t_154 : Cond.code ⟨"NibbleTrie$Trie", "change", "(II)I"⟩ prog_5_method_2_code 5 (some .int) ∈ tG := tg_of (i := 154) (by decide +kernel) (by decide +kernel)
theorem t_2 : Cond.initialized "NibbleTrie$Trie" ∈ tG := tg_of (i := 2) (by decide +kernel) (by decide +kernel)
theorem t_152 : Cond.instanceMethod ⟨"NibbleTrie$Trie", "change", "(II)I"⟩ ∈ tG := tg_of (i := 152) (by decide +kernel) (by decide +kernel)
theorem t_153 : Cond.selects "NibbleTrie$Trie" ⟨"NibbleTrie$Trie", "change", "(II)I"⟩ ⟨"NibbleTrie$Trie", "change", "(II)I"⟩ ∈ tG := tg_of (i := 153) (by decide +kernel) (by decide +kernel)
theorem t_282 : Cond.code ⟨"NibbleTrie$Trie", "becomeLike", "(LNibbleTrie$Trie;)V"⟩ prog_5_method_3_code 2 none ∈ tG := tg_of (i := 282) (by decide +kernel) (by decide +kernel)
theorem t_280 : Cond.instanceMethod ⟨"NibbleTrie$Trie", "becomeLike", "(LNibbleTrie$Trie;)V"⟩ ∈ tG := tg_of (i := 280) (by decide +kernel) (by decide +kernel)
theorem t_281 : Cond.selects "NibbleTrie$Trie" ⟨"NibbleTrie$Trie", "becomeLike", "(LNibbleTrie$Trie;)V"⟩ ⟨"NibbleTrie$Trie", "becomeLike", "(LNibbleTrie$Trie;)V"⟩ ∈ tG := tg_of (i := 281) (by decide +kernel) (by decide +kernel)
theorem t_173 : Cond.code ⟨"NibbleTrie$Trie", "list", "()V"⟩ prog_5_method_4_code 1 none ∈ tG := tg_of (i := 173) (by decide +kernel) (by decide +kernel)
theorem t_172 : Cond.instanceMethod ⟨"NibbleTrie$Trie", "list", "()V"⟩ ∈ tG := tg_of (i := 172) (by decide +kernel) (by decide +kernel)
theorem ts_0 : Cond.selects "NibbleTrie$Trie" ⟨"NibbleTrie$Trie", "list", "()V"⟩ ⟨"NibbleTrie$Trie", "list", "()V"⟩ ∈ tG := ts_of (i := 0) (by decide +kernel) (by decide +kernel)
theorem t_177 : Cond.code ⟨"NibbleTrie$Trie", "listPart", "(IIII)V"⟩ prog_5_method_5_code 6 none ∈ tG := tg_of (i := 177) (by decide +kernel) (by decide +kernel)
theorem t_176 : Cond.instanceMethod ⟨"NibbleTrie$Trie", "listPart", "(IIII)V"⟩ ∈ tG := tg_of (i := 176) (by decide +kernel) (by decide +kernel)
theorem ts_1 : Cond.selects "NibbleTrie$Trie" ⟨"NibbleTrie$Trie", "listPart", "(IIII)V"⟩ ⟨"NibbleTrie$Trie", "listPart", "(IIII)V"⟩ ∈ tG := ts_of (i := 1) (by decide +kernel) (by decide +kernel)
theorem t_188 : Cond.code ⟨"NibbleTrie$Trie", "listBranch", "(IIII)V"⟩ prog_5_method_6_code 9 none ∈ tG := tg_of (i := 188) (by decide +kernel) (by decide +kernel)
theorem t_187 : Cond.instanceMethod ⟨"NibbleTrie$Trie", "listBranch", "(IIII)V"⟩ ∈ tG := tg_of (i := 187) (by decide +kernel) (by decide +kernel)
theorem ts_2 : Cond.selects "NibbleTrie$Trie" ⟨"NibbleTrie$Trie", "listBranch", "(IIII)V"⟩ ⟨"NibbleTrie$Trie", "listBranch", "(IIII)V"⟩ ∈ tG := ts_of (i := 2) (by decide +kernel) (by decide +kernel)
theorem t_192 : Cond.code ⟨"NibbleTrie$Trie", "firstChildRow", "(II)I"⟩ prog_5_method_7_code 3 (some .int) ∈ tG := tg_of (i := 192) (by decide +kernel) (by decide +kernel)
theorem t_191 : Cond.instanceMethod ⟨"NibbleTrie$Trie", "firstChildRow", "(II)I"⟩ ∈ tG := tg_of (i := 191) (by decide +kernel) (by decide +kernel)
theorem ts_3 : Cond.selects "NibbleTrie$Trie" ⟨"NibbleTrie$Trie", "firstChildRow", "(II)I"⟩ ⟨"NibbleTrie$Trie", "firstChildRow", "(II)I"⟩ ∈ tG := ts_of (i := 3) (by decide +kernel) (by decide +kernel)
theorem t_227 : Cond.code ⟨"NibbleTrie$Trie", "rootNumber", "()J"⟩ prog_5_method_8_code 2 (some .long) ∈ tG := tg_of (i := 227) (by decide +kernel) (by decide +kernel)
theorem t_225 : Cond.instanceMethod ⟨"NibbleTrie$Trie", "rootNumber", "()J"⟩ ∈ tG := tg_of (i := 225) (by decide +kernel) (by decide +kernel)
theorem t_226 : Cond.selects "NibbleTrie$Trie" ⟨"NibbleTrie$Trie", "rootNumber", "()J"⟩ ⟨"NibbleTrie$Trie", "rootNumber", "()J"⟩ ∈ tG := tg_of (i := 226) (by decide +kernel) (by decide +kernel)
theorem t_334 : Cond.code ⟨"NibbleTrie$Trie", "digestOf", "(I)J"⟩ prog_5_method_9_code 2 (some .long) ∈ tG := tg_of (i := 334) (by decide +kernel) (by decide +kernel)
theorem t_332 : Cond.instanceMethod ⟨"NibbleTrie$Trie", "digestOf", "(I)J"⟩ ∈ tG := tg_of (i := 332) (by decide +kernel) (by decide +kernel)
theorem t_333 : Cond.selects "NibbleTrie$Trie" ⟨"NibbleTrie$Trie", "digestOf", "(I)J"⟩ ⟨"NibbleTrie$Trie", "digestOf", "(I)J"⟩ ∈ tG := tg_of (i := 333) (by decide +kernel) (by decide +kernel)
theorem t_239 : Cond.code ⟨"NibbleTrie$Trie", "branchDigest", "(III)J"⟩ prog_5_method_10_code 6 (some .long) ∈ tG := tg_of (i := 239) (by decide +kernel) (by decide +kernel)
theorem t_238 : Cond.instanceMethod ⟨"NibbleTrie$Trie", "branchDigest", "(III)J"⟩ ∈ tG := tg_of (i := 238) (by decide +kernel) (by decide +kernel)
theorem ts_5 : Cond.selects "NibbleTrie$Trie" ⟨"NibbleTrie$Trie", "branchDigest", "(III)J"⟩ ⟨"NibbleTrie$Trie", "branchDigest", "(III)J"⟩ ∈ tG := ts_of (i := 5) (by decide +kernel) (by decide +kernel)
theorem t_243 : Cond.code ⟨"NibbleTrie$Trie", "writeBranch", "(III[JI)I"⟩ prog_5_method_11_code 11 (some .int) ∈ tG := tg_of (i := 243) (by decide +kernel) (by decide +kernel)
theorem t_242 : Cond.instanceMethod ⟨"NibbleTrie$Trie", "writeBranch", "(III[JI)I"⟩ ∈ tG := tg_of (i := 242) (by decide +kernel) (by decide +kernel)
theorem ts_6 : Cond.selects "NibbleTrie$Trie" ⟨"NibbleTrie$Trie", "writeBranch", "(III[JI)I"⟩ ⟨"NibbleTrie$Trie", "writeBranch", "(III[JI)I"⟩ ∈ tG := ts_of (i := 6) (by decide +kernel) (by decide +kernel)
theorem t_231 : Cond.code ⟨"NibbleTrie$Trie", "writeReference", "(III[JI)I"⟩ prog_5_method_12_code 9 (some .int) ∈ tG := tg_of (i := 231) (by decide +kernel) (by decide +kernel)
theorem t_230 : Cond.instanceMethod ⟨"NibbleTrie$Trie", "writeReference", "(III[JI)I"⟩ ∈ tG := tg_of (i := 230) (by decide +kernel) (by decide +kernel)
theorem ts_4 : Cond.selects "NibbleTrie$Trie" ⟨"NibbleTrie$Trie", "writeReference", "(III[JI)I"⟩ ⟨"NibbleTrie$Trie", "writeReference", "(III[JI)I"⟩ ∈ tG := ts_of (i := 4) (by decide +kernel) (by decide +kernel)
theorem t_342 : Cond.code ⟨"NibbleTrie$Trie", "writeProof", "(I[J)I"⟩ prog_5_method_13_code 6 (some .int) ∈ tG := tg_of (i := 342) (by decide +kernel) (by decide +kernel)
theorem t_340 : Cond.instanceMethod ⟨"NibbleTrie$Trie", "writeProof", "(I[J)I"⟩ ∈ tG := tg_of (i := 340) (by decide +kernel) (by decide +kernel)
theorem t_341 : Cond.selects "NibbleTrie$Trie" ⟨"NibbleTrie$Trie", "writeProof", "(I[J)I"⟩ ⟨"NibbleTrie$Trie", "writeProof", "(I[J)I"⟩ ∈ tG := tg_of (i := 341) (by decide +kernel) (by decide +kernel)
theorem t_346 : Cond.code ⟨"NibbleTrie$Trie", "pathTo", "(I)I"⟩ prog_5_method_14_code 2 (some .int) ∈ tG := tg_of (i := 346) (by decide +kernel) (by decide +kernel)
theorem t_345 : Cond.instanceMethod ⟨"NibbleTrie$Trie", "pathTo", "(I)I"⟩ ∈ tG := tg_of (i := 345) (by decide +kernel) (by decide +kernel)
theorem ts_15 : Cond.selects "NibbleTrie$Trie" ⟨"NibbleTrie$Trie", "pathTo", "(I)I"⟩ ⟨"NibbleTrie$Trie", "pathTo", "(I)I"⟩ ∈ tG := ts_of (i := 15) (by decide +kernel) (by decide +kernel)
theorem t_266 : Cond.code ⟨"NibbleTrie$Trie", "hasAmongFirst", "(ILNibbleTrie$Trie;I)Z"⟩ prog_5_method_15_code 5 (some .boolean) ∈ tG := tg_of (i := 266) (by decide +kernel) (by decide +kernel)
theorem t_264 : Cond.instanceMethod ⟨"NibbleTrie$Trie", "hasAmongFirst", "(ILNibbleTrie$Trie;I)Z"⟩ ∈ tG := tg_of (i := 264) (by decide +kernel) (by decide +kernel)
theorem t_265 : Cond.selects "NibbleTrie$Trie" ⟨"NibbleTrie$Trie", "hasAmongFirst", "(ILNibbleTrie$Trie;I)Z"⟩ ⟨"NibbleTrie$Trie", "hasAmongFirst", "(ILNibbleTrie$Trie;I)Z"⟩ ∈ tG := tg_of (i := 265) (by decide +kernel) (by decide +kernel)
theorem t_270 : Cond.code ⟨"NibbleTrie$Trie", "isSame", "(ILNibbleTrie$Trie;I)Z"⟩ prog_5_method_16_code 10 (some .boolean) ∈ tG := tg_of (i := 270) (by decide +kernel) (by decide +kernel)
theorem t_269 : Cond.instanceMethod ⟨"NibbleTrie$Trie", "isSame", "(ILNibbleTrie$Trie;I)Z"⟩ ∈ tG := tg_of (i := 269) (by decide +kernel) (by decide +kernel)
theorem ts_8 : Cond.selects "NibbleTrie$Trie" ⟨"NibbleTrie$Trie", "isSame", "(ILNibbleTrie$Trie;I)Z"⟩ ⟨"NibbleTrie$Trie", "isSame", "(ILNibbleTrie$Trie;I)Z"⟩ ∈ tG := ts_of (i := 8) (by decide +kernel) (by decide +kernel)
end
section
/-! each method: name, bytes, words, room, what a call of it needs -/
abbrev y_NT_put : MethodName := ⟨"NibbleTrie", "put", "(II)I"⟩
abbrev b_NT_put : ByteArray := prog_1_method_2_code
abbrev w_NT_put : List Cond := Cond.code y_NT_put b_NT_put 3 (some .int) :: tG
def rm_NT_put : Room := { frames := 31, cells := 0, slots := 0, locals := 999 }
theorem cb_NT_put {R : Room} {s : State} {args : Array Value} {own : String} {idx : Nat} {q : Cond} (hts : ∀ w ∈ q :: tG, w.before args s = true) (hl : Cond.methodLink own idx y_NT_put ∈ tG) (hR : rm_NT_put.frames + 1 ≤ R.frames ∧ 8 + (3 + 11) + rm_NT_put.locals ≤ R.locals) : CallW R s args own "NibbleTrie" idx y_NT_put b_NT_put 3 (some .int) w_NT_put rm_NT_put 0 0 2 := ⟨callB_of 2 hts (gx t_139) rfl rfl rfl (hts _ (List.mem_cons_of_mem _ t_1)) (hts _ (List.mem_cons_of_mem _ hl)) (by decide +kernel) hR, hts _ (List.mem_cons_of_mem _ t_137), hts _ (List.mem_cons_of_mem _ t_138)⟩
abbrev y_NT_get : MethodName := ⟨"NibbleTrie", "get", "(I)I"⟩
abbrev b_NT_get : ByteArray := prog_1_method_3_code
abbrev w_NT_get : List Cond := Cond.code y_NT_get b_NT_get 2 (some .int) :: tG
def rm_NT_get : Room := { frames := 2, cells := 0, slots := 0, locals := 44 }
theorem cb_NT_get {R : Room} {s : State} {args : Array Value} {own : String} {idx : Nat} {q : Cond} (hts : ∀ w ∈ q :: tG, w.before args s = true) (hl : Cond.methodLink own idx y_NT_get ∈ tG) (hR : rm_NT_get.frames + 1 ≤ R.frames ∧ 8 + (2 + 11) + rm_NT_get.locals ≤ R.locals) : CallW R s args own "NibbleTrie" idx y_NT_get b_NT_get 2 (some .int) w_NT_get rm_NT_get 0 0 1 := ⟨callB_of 1 hts (gx t_210) rfl rfl rfl (hts _ (List.mem_cons_of_mem _ t_1)) (hts _ (List.mem_cons_of_mem _ hl)) (by decide +kernel) hR, hts _ (List.mem_cons_of_mem _ t_208), hts _ (List.mem_cons_of_mem _ t_209)⟩
abbrev y_NT_size : MethodName := ⟨"NibbleTrie", "size", "()I"⟩
abbrev b_NT_size : ByteArray := prog_1_method_4_code
abbrev w_NT_size : List Cond := Cond.code y_NT_size b_NT_size 1 (some .int) :: tG
def rm_NT_size : Room := { frames := 0, cells := 0, slots := 0, locals := 0 }
theorem cb_NT_size {R : Room} {s : State} {args : Array Value} {own : String} {idx : Nat} {q : Cond} (hts : ∀ w ∈ q :: tG, w.before args s = true) (hl : Cond.methodLink own idx y_NT_size ∈ tG) (hR : rm_NT_size.frames + 1 ≤ R.frames ∧ 8 + (1 + 11) + rm_NT_size.locals ≤ R.locals) : CallW R s args own "NibbleTrie" idx y_NT_size b_NT_size 1 (some .int) w_NT_size rm_NT_size 0 0 0 := ⟨callB_of 0 hts (gx t_219) rfl rfl rfl (hts _ (List.mem_cons_of_mem _ t_1)) (hts _ (List.mem_cons_of_mem _ hl)) (by decide +kernel) hR, hts _ (List.mem_cons_of_mem _ t_217), hts _ (List.mem_cons_of_mem _ t_218)⟩
abbrev y_NT_root : MethodName := ⟨"NibbleTrie", "root", "()J"⟩
abbrev b_NT_root : ByteArray := prog_1_method_5_code
abbrev w_NT_root : List Cond := Cond.code y_NT_root b_NT_root 1 (some .long) :: tG
def rm_NT_root : Room := { frames := 39, cells := 0, slots := 0, locals := 1249 }
theorem cb_NT_root {R : Room} {s : State} {args : Array Value} {own : String} {idx : Nat} {q : Cond} (hts : ∀ w ∈ q :: tG, w.before args s = true) (hl : Cond.methodLink own idx y_NT_root ∈ tG) (hR : rm_NT_root.frames + 1 ≤ R.frames ∧ 8 + (1 + 11) + rm_NT_root.locals ≤ R.locals) : CallW R s args own "NibbleTrie" idx y_NT_root b_NT_root 1 (some .long) w_NT_root rm_NT_root 0 0 0 := ⟨callB_of 0 hts (gx t_223) rfl rfl rfl (hts _ (List.mem_cons_of_mem _ t_1)) (hts _ (List.mem_cons_of_mem _ hl)) (by decide +kernel) hR, hts _ (List.mem_cons_of_mem _ t_221), hts _ (List.mem_cons_of_mem _ t_222)⟩
abbrev y_NT_count : MethodName := ⟨"NibbleTrie", "count", "(I)I"⟩
abbrev b_NT_count : ByteArray := prog_1_method_6_code
abbrev w_NT_count : List Cond := Cond.code y_NT_count b_NT_count 2 (some .int) :: tG
def rm_NT_count : Room := { frames := 0, cells := 0, slots := 0, locals := 0 }
theorem cb_NT_count {R : Room} {s : State} {args : Array Value} {own : String} {idx : Nat} {q : Cond} (hts : ∀ w ∈ q :: tG, w.before args s = true) (hl : Cond.methodLink own idx y_NT_count ∈ tG) (hR : rm_NT_count.frames + 1 ≤ R.frames ∧ 8 + (2 + 11) + rm_NT_count.locals ≤ R.locals) : CallW R s args own "NibbleTrie" idx y_NT_count b_NT_count 2 (some .int) w_NT_count rm_NT_count 0 0 1 := ⟨callB_of 1 hts (gx t_254) rfl rfl rfl (hts _ (List.mem_cons_of_mem _ t_1)) (hts _ (List.mem_cons_of_mem _ hl)) (by decide +kernel) hR, hts _ (List.mem_cons_of_mem _ t_252), hts _ (List.mem_cons_of_mem _ t_253)⟩
abbrev y_NT_commit : MethodName := ⟨"NibbleTrie", "commit", "(I)I"⟩
abbrev b_NT_commit : ByteArray := prog_1_method_7_code
abbrev w_NT_commit : List Cond := Cond.code y_NT_commit b_NT_commit 3 (some .int) :: tG
def rm_NT_commit : Room := { frames := 6, cells := 0, slots := 0, locals := 142 }
theorem cb_NT_commit {R : Room} {s : State} {args : Array Value} {own : String} {idx : Nat} {q : Cond} (hts : ∀ w ∈ q :: tG, w.before args s = true) (hl : Cond.methodLink own idx y_NT_commit ∈ tG) (hR : rm_NT_commit.frames + 1 ≤ R.frames ∧ 8 + (3 + 11) + rm_NT_commit.locals ≤ R.locals) : CallW R s args own "NibbleTrie" idx y_NT_commit b_NT_commit 3 (some .int) w_NT_commit rm_NT_commit 0 0 1 := ⟨callB_of 1 hts (gx t_258) rfl rfl rfl (hts _ (List.mem_cons_of_mem _ t_1)) (hts _ (List.mem_cons_of_mem _ hl)) (by decide +kernel) hR, hts _ (List.mem_cons_of_mem _ t_256), hts _ (List.mem_cons_of_mem _ t_257)⟩
abbrev y_NT_crash : MethodName := ⟨"NibbleTrie", "crash", "()I"⟩
abbrev b_NT_crash : ByteArray := prog_1_method_8_code
abbrev w_NT_crash : List Cond := Cond.code y_NT_crash b_NT_crash 1 (some .int) :: tG
def rm_NT_crash : Room := { frames := 4, cells := 0, slots := 0, locals := 88 }
theorem cb_NT_crash {R : Room} {s : State} {args : Array Value} {own : String} {idx : Nat} {q : Cond} (hts : ∀ w ∈ q :: tG, w.before args s = true) (hl : Cond.methodLink own idx y_NT_crash ∈ tG) (hR : rm_NT_crash.frames + 1 ≤ R.frames ∧ 8 + (1 + 11) + rm_NT_crash.locals ≤ R.locals) : CallW R s args own "NibbleTrie" idx y_NT_crash b_NT_crash 1 (some .int) w_NT_crash rm_NT_crash 0 0 0 := ⟨callB_of 0 hts (gx t_298) rfl rfl rfl (hts _ (List.mem_cons_of_mem _ t_1)) (hts _ (List.mem_cons_of_mem _ hl)) (by decide +kernel) hR, hts _ (List.mem_cons_of_mem _ t_296), hts _ (List.mem_cons_of_mem _ t_297)⟩
abbrev y_NT_versions : MethodName := ⟨"NibbleTrie", "versions", "()I"⟩
abbrev b_NT_versions : ByteArray := prog_1_method_9_code
abbrev w_NT_versions : List Cond := Cond.code y_NT_versions b_NT_versions 1 (some .int) :: tG
def rm_NT_versions : Room := { frames := 0, cells := 0, slots := 0, locals := 0 }
theorem cb_NT_versions {R : Room} {s : State} {args : Array Value} {own : String} {idx : Nat} {q : Cond} (hts : ∀ w ∈ q :: tG, w.before args s = true) (hl : Cond.methodLink own idx y_NT_versions ∈ tG) (hR : rm_NT_versions.frames + 1 ≤ R.frames ∧ 8 + (1 + 11) + rm_NT_versions.locals ≤ R.locals) : CallW R s args own "NibbleTrie" idx y_NT_versions b_NT_versions 1 (some .int) w_NT_versions rm_NT_versions 0 0 0 := ⟨callB_of 0 hts (gx t_302) rfl rfl rfl (hts _ (List.mem_cons_of_mem _ t_1)) (hts _ (List.mem_cons_of_mem _ hl)) (by decide +kernel) hR, hts _ (List.mem_cons_of_mem _ t_300), hts _ (List.mem_cons_of_mem _ t_301)⟩
abbrev y_NT_at : MethodName := ⟨"NibbleTrie", "at", "(II)I"⟩
abbrev b_NT_at : ByteArray := prog_1_method_10_code
abbrev w_NT_at : List Cond := Cond.code y_NT_at b_NT_at 3 (some .int) :: tG
def rm_NT_at : Room := { frames := 2, cells := 0, slots := 0, locals := 44 }
theorem cb_NT_at {R : Room} {s : State} {args : Array Value} {own : String} {idx : Nat} {q : Cond} (hts : ∀ w ∈ q :: tG, w.before args s = true) (hl : Cond.methodLink own idx y_NT_at ∈ tG) (hR : rm_NT_at.frames + 1 ≤ R.frames ∧ 8 + (3 + 11) + rm_NT_at.locals ≤ R.locals) : CallW R s args own "NibbleTrie" idx y_NT_at b_NT_at 3 (some .int) w_NT_at rm_NT_at 0 0 2 := ⟨callB_of 2 hts (gx t_306) rfl rfl rfl (hts _ (List.mem_cons_of_mem _ t_1)) (hts _ (List.mem_cons_of_mem _ hl)) (by decide +kernel) hR, hts _ (List.mem_cons_of_mem _ t_304), hts _ (List.mem_cons_of_mem _ t_305)⟩
abbrev y_NT_rootAt : MethodName := ⟨"NibbleTrie", "rootAt", "(I)J"⟩
abbrev b_NT_rootAt : ByteArray := prog_1_method_11_code
abbrev w_NT_rootAt : List Cond := Cond.code y_NT_rootAt b_NT_rootAt 2 (some .long) :: tG
def rm_NT_rootAt : Room := { frames := 39, cells := 0, slots := 0, locals := 1249 }
theorem cb_NT_rootAt {R : Room} {s : State} {args : Array Value} {own : String} {idx : Nat} {q : Cond} (hts : ∀ w ∈ q :: tG, w.before args s = true) (hl : Cond.methodLink own idx y_NT_rootAt ∈ tG) (hR : rm_NT_rootAt.frames + 1 ≤ R.frames ∧ 8 + (2 + 11) + rm_NT_rootAt.locals ≤ R.locals) : CallW R s args own "NibbleTrie" idx y_NT_rootAt b_NT_rootAt 2 (some .long) w_NT_rootAt rm_NT_rootAt 0 0 1 := ⟨callB_of 1 hts (gx t_314) rfl rfl rfl (hts _ (List.mem_cons_of_mem _ t_1)) (hts _ (List.mem_cons_of_mem _ hl)) (by decide +kernel) hR, hts _ (List.mem_cons_of_mem _ t_312), hts _ (List.mem_cons_of_mem _ t_313)⟩
abbrev y_NT_stored : MethodName := ⟨"NibbleTrie", "stored", "()I"⟩
abbrev b_NT_stored : ByteArray := prog_1_method_12_code
abbrev w_NT_stored : List Cond := Cond.code y_NT_stored b_NT_stored 4 (some .int) :: tG
def rm_NT_stored : Room := { frames := 6, cells := 0, slots := 0, locals := 141 }
theorem cb_NT_stored {R : Room} {s : State} {args : Array Value} {own : String} {idx : Nat} {q : Cond} (hts : ∀ w ∈ q :: tG, w.before args s = true) (hl : Cond.methodLink own idx y_NT_stored ∈ tG) (hR : rm_NT_stored.frames + 1 ≤ R.frames ∧ 8 + (4 + 11) + rm_NT_stored.locals ≤ R.locals) : CallW R s args own "NibbleTrie" idx y_NT_stored b_NT_stored 4 (some .int) w_NT_stored rm_NT_stored 0 0 0 := ⟨callB_of 0 hts (gx t_318) rfl rfl rfl (hts _ (List.mem_cons_of_mem _ t_1)) (hts _ (List.mem_cons_of_mem _ hl)) (by decide +kernel) hR, hts _ (List.mem_cons_of_mem _ t_316), hts _ (List.mem_cons_of_mem _ t_317)⟩
abbrev y_NT_uses : MethodName := ⟨"NibbleTrie", "uses", "(J)I"⟩
abbrev b_NT_uses : ByteArray := prog_1_method_13_code
abbrev w_NT_uses : List Cond := Cond.code y_NT_uses b_NT_uses 6 (some .int) :: tG
def rm_NT_uses : Room := { frames := 41, cells := 0, slots := 0, locals := 1316 }
theorem cb_NT_uses {R : Room} {s : State} {args : Array Value} {own : String} {idx : Nat} {q : Cond} (hts : ∀ w ∈ q :: tG, w.before args s = true) (hl : Cond.methodLink own idx y_NT_uses ∈ tG) (hR : rm_NT_uses.frames + 1 ≤ R.frames ∧ 8 + (6 + 11) + rm_NT_uses.locals ≤ R.locals) : CallW R s args own "NibbleTrie" idx y_NT_uses b_NT_uses 6 (some .int) w_NT_uses rm_NT_uses 0 0 1 := ⟨callB_of 1 hts (gx t_326) rfl rfl rfl (hts _ (List.mem_cons_of_mem _ t_1)) (hts _ (List.mem_cons_of_mem _ hl)) (by decide +kernel) hR, hts _ (List.mem_cons_of_mem _ t_324), hts _ (List.mem_cons_of_mem _ t_325)⟩
abbrev y_NT_prove : MethodName := ⟨"NibbleTrie", "prove", "(II)I"⟩
abbrev b_NT_prove : ByteArray := prog_1_method_14_code
abbrev w_NT_prove : List Cond := Cond.code y_NT_prove b_NT_prove 3 (some .int) :: tG
def rm_NT_prove : Room := { frames := 40, cells := 0, slots := 0, locals := 1290 }
theorem cb_NT_prove {R : Room} {s : State} {args : Array Value} {own : String} {idx : Nat} {q : Cond} (hts : ∀ w ∈ q :: tG, w.before args s = true) (hl : Cond.methodLink own idx y_NT_prove ∈ tG) (hR : rm_NT_prove.frames + 1 ≤ R.frames ∧ 8 + (3 + 11) + rm_NT_prove.locals ≤ R.locals) : CallW R s args own "NibbleTrie" idx y_NT_prove b_NT_prove 3 (some .int) w_NT_prove rm_NT_prove 0 0 2 := ⟨callB_of 2 hts (gx t_338) rfl rfl rfl (hts _ (List.mem_cons_of_mem _ t_1)) (hts _ (List.mem_cons_of_mem _ hl)) (by decide +kernel) hR, hts _ (List.mem_cons_of_mem _ t_336), hts _ (List.mem_cons_of_mem _ t_337)⟩
abbrev y_NT_word : MethodName := ⟨"NibbleTrie", "word", "(I)J"⟩
abbrev b_NT_word : ByteArray := prog_1_method_15_code
abbrev w_NT_word : List Cond := Cond.code y_NT_word b_NT_word 2 (some .long) :: tG
def rm_NT_word : Room := { frames := 1, cells := 0, slots := 0, locals := 21 }
theorem cb_NT_word {R : Room} {s : State} {args : Array Value} {own : String} {idx : Nat} {q : Cond} (hts : ∀ w ∈ q :: tG, w.before args s = true) (hl : Cond.methodLink own idx y_NT_word ∈ tG) (hR : rm_NT_word.frames + 1 ≤ R.frames ∧ 8 + (2 + 11) + rm_NT_word.locals ≤ R.locals) : CallW R s args own "NibbleTrie" idx y_NT_word b_NT_word 2 (some .long) w_NT_word rm_NT_word 0 0 1 := ⟨callB_of 1 hts (gx t_354) rfl rfl rfl (hts _ (List.mem_cons_of_mem _ t_1)) (hts _ (List.mem_cons_of_mem _ hl)) (by decide +kernel) hR, hts _ (List.mem_cons_of_mem _ t_352), hts _ (List.mem_cons_of_mem _ t_353)⟩
abbrev y_NT_alter : MethodName := ⟨"NibbleTrie", "alter", "(IJ)Z"⟩
abbrev b_NT_alter : ByteArray := prog_1_method_16_code
abbrev w_NT_alter : List Cond := Cond.code y_NT_alter b_NT_alter 4 (some .boolean) :: tG
def rm_NT_alter : Room := { frames := 1, cells := 0, slots := 0, locals := 21 }
theorem cb_NT_alter {R : Room} {s : State} {args : Array Value} {own : String} {idx : Nat} {q : Cond} (hts : ∀ w ∈ q :: tG, w.before args s = true) (hl : Cond.methodLink own idx y_NT_alter ∈ tG) (hR : rm_NT_alter.frames + 1 ≤ R.frames ∧ 8 + (4 + 11) + rm_NT_alter.locals ≤ R.locals) : CallW R s args own "NibbleTrie" idx y_NT_alter b_NT_alter 4 (some .boolean) w_NT_alter rm_NT_alter 0 0 2 := ⟨callB_of 2 hts (gx t_362) rfl rfl rfl (hts _ (List.mem_cons_of_mem _ t_1)) (hts _ (List.mem_cons_of_mem _ hl)) (by decide +kernel) hR, hts _ (List.mem_cons_of_mem _ t_360), hts _ (List.mem_cons_of_mem _ t_361)⟩
abbrev y_NT_cut : MethodName := ⟨"NibbleTrie", "cut", "()I"⟩
abbrev b_NT_cut : ByteArray := prog_1_method_17_code
abbrev w_NT_cut : List Cond := Cond.code y_NT_cut b_NT_cut 1 (some .int) :: tG
def rm_NT_cut : Room := { frames := 0, cells := 0, slots := 0, locals := 0 }
theorem cb_NT_cut {R : Room} {s : State} {args : Array Value} {own : String} {idx : Nat} {q : Cond} (hts : ∀ w ∈ q :: tG, w.before args s = true) (hl : Cond.methodLink own idx y_NT_cut ∈ tG) (hR : rm_NT_cut.frames + 1 ≤ R.frames ∧ 8 + (1 + 11) + rm_NT_cut.locals ≤ R.locals) : CallW R s args own "NibbleTrie" idx y_NT_cut b_NT_cut 1 (some .int) w_NT_cut rm_NT_cut 0 0 0 := ⟨callB_of 0 hts (gx t_366) rfl rfl rfl (hts _ (List.mem_cons_of_mem _ t_1)) (hts _ (List.mem_cons_of_mem _ hl)) (by decide +kernel) hR, hts _ (List.mem_cons_of_mem _ t_364), hts _ (List.mem_cons_of_mem _ t_365)⟩
abbrev y_NT_verify : MethodName := ⟨"NibbleTrie", "verify", "(JII)Z"⟩
abbrev b_NT_verify : ByteArray := prog_1_method_18_code
abbrev w_NT_verify : List Cond := Cond.code y_NT_verify b_NT_verify 5 (some .boolean) :: tG
def rm_NT_verify : Room := { frames := 5, cells := 0, slots := 0, locals := 117 }
theorem cb_NT_verify {R : Room} {s : State} {args : Array Value} {own : String} {idx : Nat} {q : Cond} (hts : ∀ w ∈ q :: tG, w.before args s = true) (hl : Cond.methodLink own idx y_NT_verify ∈ tG) (hR : rm_NT_verify.frames + 1 ≤ R.frames ∧ 8 + (5 + 11) + rm_NT_verify.locals ≤ R.locals) : CallW R s args own "NibbleTrie" idx y_NT_verify b_NT_verify 5 (some .boolean) w_NT_verify rm_NT_verify 0 0 3 := ⟨callB_of 3 hts (gx t_370) rfl rfl rfl (hts _ (List.mem_cons_of_mem _ t_1)) (hts _ (List.mem_cons_of_mem _ hl)) (by decide +kernel) hR, hts _ (List.mem_cons_of_mem _ t_368), hts _ (List.mem_cons_of_mem _ t_369)⟩
abbrev y_NT_isKept : MethodName := ⟨"NibbleTrie", "isKept", "(I)Z"⟩
abbrev b_NT_isKept : ByteArray := prog_1_method_19_code
abbrev w_NT_isKept : List Cond := Cond.code y_NT_isKept b_NT_isKept 2 (some .boolean) :: tG
def rm_NT_isKept : Room := { frames := 0, cells := 0, slots := 0, locals := 0 }
theorem cb_NT_isKept {R : Room} {s : State} {args : Array Value} {own : String} {idx : Nat} {q : Cond} (hts : ∀ w ∈ q :: tG, w.before args s = true) (hl : Cond.methodLink own idx y_NT_isKept ∈ tG) (hR : rm_NT_isKept.frames + 1 ≤ R.frames ∧ 8 + (2 + 11) + rm_NT_isKept.locals ≤ R.locals) : CallW R s args own "NibbleTrie" idx y_NT_isKept b_NT_isKept 2 (some .boolean) w_NT_isKept rm_NT_isKept 0 0 1 := ⟨callB_of 1 hts (gx t_310) rfl rfl rfl (hts _ (List.mem_cons_of_mem _ t_1)) (hts _ (List.mem_cons_of_mem _ hl)) (by decide +kernel) hR, hts _ (List.mem_cons_of_mem _ t_309), hts _ (List.mem_cons_of_mem _ ts_12)⟩
abbrev y_NT_branchesToWrite : MethodName := ⟨"NibbleTrie", "branchesToWrite", "()I"⟩
abbrev b_NT_branchesToWrite : ByteArray := prog_1_method_20_code
abbrev w_NT_branchesToWrite : List Cond := Cond.code y_NT_branchesToWrite b_NT_branchesToWrite 4 (some .int) :: tG
def rm_NT_branchesToWrite : Room := { frames := 5, cells := 0, slots := 0, locals := 119 }
theorem cb_NT_branchesToWrite {R : Room} {s : State} {args : Array Value} {own : String} {idx : Nat} {q : Cond} (hts : ∀ w ∈ q :: tG, w.before args s = true) (hl : Cond.methodLink own idx y_NT_branchesToWrite ∈ tG) (hR : rm_NT_branchesToWrite.frames + 1 ≤ R.frames ∧ 8 + (4 + 11) + rm_NT_branchesToWrite.locals ≤ R.locals) : CallW R s args own "NibbleTrie" idx y_NT_branchesToWrite b_NT_branchesToWrite 4 (some .int) w_NT_branchesToWrite rm_NT_branchesToWrite 0 0 0 := ⟨callB_of 0 hts (gx t_262) rfl rfl rfl (hts _ (List.mem_cons_of_mem _ t_1)) (hts _ (List.mem_cons_of_mem _ hl)) (by decide +kernel) hR, hts _ (List.mem_cons_of_mem _ t_261), hts _ (List.mem_cons_of_mem _ ts_7)⟩
abbrev y_NT_isAmongVersions : MethodName := ⟨"NibbleTrie", "isAmongVersions", "(ILNibbleTrie$Trie;I)Z"⟩
abbrev b_NT_isAmongVersions : ByteArray := prog_1_method_21_code
abbrev w_NT_isAmongVersions : List Cond := Cond.code y_NT_isAmongVersions b_NT_isAmongVersions 5 (some .boolean) :: tG
def rm_NT_isAmongVersions : Room := { frames := 4, cells := 0, slots := 0, locals := 95 }
theorem cb_NT_isAmongVersions {R : Room} {s : State} {args : Array Value} {own : String} {idx : Nat} {q : Cond} (hts : ∀ w ∈ q :: tG, w.before args s = true) (hl : Cond.methodLink own idx y_NT_isAmongVersions ∈ tG) (hR : rm_NT_isAmongVersions.frames + 1 ≤ R.frames ∧ 8 + (5 + 11) + rm_NT_isAmongVersions.locals ≤ R.locals) : CallW R s args own "NibbleTrie" idx y_NT_isAmongVersions b_NT_isAmongVersions 5 (some .boolean) w_NT_isAmongVersions rm_NT_isAmongVersions 0 0 3 := ⟨callB_of 3 hts (gx t_274) rfl rfl rfl (hts _ (List.mem_cons_of_mem _ t_1)) (hts _ (List.mem_cons_of_mem _ hl)) (by decide +kernel) hR, hts _ (List.mem_cons_of_mem _ t_273), hts _ (List.mem_cons_of_mem _ ts_9)⟩
abbrev y_NT_isFirstOfItsKind : MethodName := ⟨"NibbleTrie", "isFirstOfItsKind", "(II)Z"⟩
abbrev b_NT_isFirstOfItsKind : ByteArray := prog_1_method_22_code
abbrev w_NT_isFirstOfItsKind : List Cond := Cond.code y_NT_isFirstOfItsKind b_NT_isFirstOfItsKind 3 (some .boolean) :: tG
def rm_NT_isFirstOfItsKind : Room := { frames := 5, cells := 0, slots := 0, locals := 119 }
theorem cb_NT_isFirstOfItsKind {R : Room} {s : State} {args : Array Value} {own : String} {idx : Nat} {q : Cond} (hts : ∀ w ∈ q :: tG, w.before args s = true) (hl : Cond.methodLink own idx y_NT_isFirstOfItsKind ∈ tG) (hR : rm_NT_isFirstOfItsKind.frames + 1 ≤ R.frames ∧ 8 + (3 + 11) + rm_NT_isFirstOfItsKind.locals ≤ R.locals) : CallW R s args own "NibbleTrie" idx y_NT_isFirstOfItsKind b_NT_isFirstOfItsKind 3 (some .boolean) w_NT_isFirstOfItsKind rm_NT_isFirstOfItsKind 0 0 2 := ⟨callB_of 2 hts (gx t_322) rfl rfl rfl (hts _ (List.mem_cons_of_mem _ t_1)) (hts _ (List.mem_cons_of_mem _ hl)) (by decide +kernel) hR, hts _ (List.mem_cons_of_mem _ t_321), hts _ (List.mem_cons_of_mem _ ts_13)⟩
abbrev y_NT_isUse : MethodName := ⟨"NibbleTrie", "isUse", "(II)Z"⟩
abbrev b_NT_isUse : ByteArray := prog_1_method_23_code
abbrev w_NT_isUse : List Cond := Cond.code y_NT_isUse b_NT_isUse 4 (some .boolean) :: tG
def rm_NT_isUse : Room := { frames := 6, cells := 0, slots := 0, locals := 141 }
theorem cb_NT_isUse {R : Room} {s : State} {args : Array Value} {own : String} {idx : Nat} {q : Cond} (hts : ∀ w ∈ q :: tG, w.before args s = true) (hl : Cond.methodLink own idx y_NT_isUse ∈ tG) (hR : rm_NT_isUse.frames + 1 ≤ R.frames ∧ 8 + (4 + 11) + rm_NT_isUse.locals ≤ R.locals) : CallW R s args own "NibbleTrie" idx y_NT_isUse b_NT_isUse 4 (some .boolean) w_NT_isUse rm_NT_isUse 0 0 2 := ⟨callB_of 2 hts (gx t_330) rfl rfl rfl (hts _ (List.mem_cons_of_mem _ t_1)) (hts _ (List.mem_cons_of_mem _ hl)) (by decide +kernel) hR, hts _ (List.mem_cons_of_mem _ t_329), hts _ (List.mem_cons_of_mem _ ts_14)⟩
abbrev y_NT_keepWorking : MethodName := ⟨"NibbleTrie", "keepWorking", "()V"⟩
abbrev b_NT_keepWorking : ByteArray := prog_1_method_24_code
abbrev w_NT_keepWorking : List Cond := Cond.code y_NT_keepWorking b_NT_keepWorking 4 none :: tG
def rm_NT_keepWorking : Room := { frames := 3, cells := 0, slots := 0, locals := 68 }
theorem cb_NT_keepWorking {R : Room} {s : State} {args : Array Value} {own : String} {idx : Nat} {q : Cond} (hts : ∀ w ∈ q :: tG, w.before args s = true) (hl : Cond.methodLink own idx y_NT_keepWorking ∈ tG) (hR : rm_NT_keepWorking.frames + 1 ≤ R.frames ∧ 8 + (4 + 11) + rm_NT_keepWorking.locals ≤ R.locals) : CallW R s args own "NibbleTrie" idx y_NT_keepWorking b_NT_keepWorking 4 none w_NT_keepWorking rm_NT_keepWorking 0 0 0 := ⟨callB_of 0 hts (gx t_294) rfl rfl rfl (hts _ (List.mem_cons_of_mem _ t_1)) (hts _ (List.mem_cons_of_mem _ hl)) (by decide +kernel) hR, hts _ (List.mem_cons_of_mem _ t_293), hts _ (List.mem_cons_of_mem _ ts_11)⟩
abbrev y_NT_goDown : MethodName := ⟨"NibbleTrie", "goDown", "()V"⟩
abbrev b_NT_goDown : ByteArray := prog_1_method_25_code
abbrev w_NT_goDown : List Cond := Cond.code y_NT_goDown b_NT_goDown 1 none :: tG
def rm_NT_goDown : Room := { frames := 3, cells := 0, slots := 0, locals := 68 }
theorem cb_NT_goDown {R : Room} {s : State} {args : Array Value} {own : String} {idx : Nat} {q : Cond} (hts : ∀ w ∈ q :: tG, w.before args s = true) (hl : Cond.methodLink own idx y_NT_goDown ∈ tG) (hR : rm_NT_goDown.frames + 1 ≤ R.frames ∧ 8 + (1 + 11) + rm_NT_goDown.locals ≤ R.locals) : CallW R s args own "NibbleTrie" idx y_NT_goDown b_NT_goDown 1 none w_NT_goDown rm_NT_goDown 0 0 0 := ⟨callB_of 0 hts (gx t_278) rfl rfl rfl (hts _ (List.mem_cons_of_mem _ t_1)) (hts _ (List.mem_cons_of_mem _ hl)) (by decide +kernel) hR, hts _ (List.mem_cons_of_mem _ t_277), hts _ (List.mem_cons_of_mem _ ts_10)⟩
abbrev y_NT_digest : MethodName := ⟨"NibbleTrie", "digest", "([JII)J"⟩
abbrev b_NT_digest : ByteArray := prog_1_method_26_code
abbrev w_NT_digest : List Cond := Cond.code y_NT_digest b_NT_digest 6 (some .long) :: tG
def rm_NT_digest : Room := { frames := 0, cells := 0, slots := 0, locals := 0 }
theorem cb_NT_digest {R : Room} {s : State} {args : Array Value} {own : String} {idx : Nat} {q : Cond} (hts : ∀ w ∈ q :: tG, w.before args s = true) (hl : Cond.methodLink own idx y_NT_digest ∈ tG) (hR : rm_NT_digest.frames + 1 ≤ R.frames ∧ 8 + (6 + 11) + rm_NT_digest.locals ≤ R.locals) : CallB R s args own idx y_NT_digest b_NT_digest 6 (some .long) w_NT_digest rm_NT_digest 0 0 3 ∧ (Cond.static y_NT_digest).before args s = true := ⟨callB_of 3 hts (gx t_246) rfl rfl rfl (hts _ (List.mem_cons_of_mem _ t_1)) (hts _ (List.mem_cons_of_mem _ hl)) (by decide +kernel) hR, hts _ (List.mem_cons_of_mem _ t_245)⟩
theorem cn_NT_digest {R : Room} {s : State} {args : Array Value} {own : String} {idx : Nat} {q : Cond} (hts : ∀ w ∈ q :: tG, w.before args s = true) (hl : va_Nw (.methodLinkNest own idx y_NT_digest "NibbleTrie") s) (hR : rm_NT_digest.frames + 1 ≤ R.frames ∧ 8 + (6 + 11) + rm_NT_digest.locals ≤ R.locals) : va_CN R s args own idx y_NT_digest "NibbleTrie" b_NT_digest 6 (some .long) w_NT_digest rm_NT_digest 0 0 3 ∧ (Cond.static y_NT_digest).before args s = true ∧ True := ⟨va_cnB 3 hts (gx t_246) rfl rfl rfl hl (hts _ (List.mem_cons_of_mem _ t_1)) (by decide +kernel) hR, hts _ (List.mem_cons_of_mem _ t_245), trivial⟩
abbrev y_MO_nibbles : MethodName := ⟨"NibbleTrieModel", "nibbles", "(I)I"⟩
abbrev b_MO_nibbles : ByteArray := prog_7_method_2_code
abbrev w_MO_nibbles : List Cond := Cond.code y_MO_nibbles b_MO_nibbles 1 (some .int) :: tG
def rm_MO_nibbles : Room := { frames := 0, cells := 0, slots := 0, locals := 0 }
theorem cb_MO_nibbles {R : Room} {s : State} {args : Array Value} {own : String} {idx : Nat} {q : Cond} (hts : ∀ w ∈ q :: tG, w.before args s = true) (hl : Cond.methodLink own idx y_MO_nibbles ∈ tG) (hR : rm_MO_nibbles.frames + 1 ≤ R.frames ∧ 8 + (1 + 11) + rm_MO_nibbles.locals ≤ R.locals) : CallB R s args own idx y_MO_nibbles b_MO_nibbles 1 (some .int) w_MO_nibbles rm_MO_nibbles 0 0 1 ∧ (Cond.static y_MO_nibbles).before args s = true := ⟨callB_of 1 hts (gx t_470) rfl rfl rfl (hts _ (List.mem_cons_of_mem _ t_6)) (hts _ (List.mem_cons_of_mem _ hl)) (by decide +kernel) hR, hts _ (List.mem_cons_of_mem _ t_469)⟩
abbrev y_MO_begins : MethodName := ⟨"NibbleTrieModel", "begins", "(II)Z"⟩
abbrev b_MO_begins : ByteArray := prog_7_method_3_code
abbrev w_MO_begins : List Cond := Cond.code y_MO_begins b_MO_begins 3 (some .boolean) :: tG
def rm_MO_begins : Room := { frames := 1, cells := 0, slots := 0, locals := 20 }
theorem cb_MO_begins {R : Room} {s : State} {args : Array Value} {own : String} {idx : Nat} {q : Cond} (hts : ∀ w ∈ q :: tG, w.before args s = true) (hl : Cond.methodLink own idx y_MO_begins ∈ tG) (hR : rm_MO_begins.frames + 1 ≤ R.frames ∧ 8 + (3 + 11) + rm_MO_begins.locals ≤ R.locals) : CallB R s args own idx y_MO_begins b_MO_begins 3 (some .boolean) w_MO_begins rm_MO_begins 0 0 2 ∧ (Cond.static y_MO_begins).before args s = true := ⟨callB_of 2 hts (gx t_511) rfl rfl rfl (hts _ (List.mem_cons_of_mem _ t_6)) (hts _ (List.mem_cons_of_mem _ hl)) (by decide +kernel) hR, hts _ (List.mem_cons_of_mem _ t_510)⟩
abbrev y_MO_behind : MethodName := ⟨"NibbleTrieModel", "behind", "(II)I"⟩
abbrev b_MO_behind : ByteArray := prog_7_method_4_code
abbrev w_MO_behind : List Cond := Cond.code y_MO_behind b_MO_behind 3 (some .int) :: tG
def rm_MO_behind : Room := { frames := 1, cells := 0, slots := 0, locals := 20 }
theorem cb_MO_behind {R : Room} {s : State} {args : Array Value} {own : String} {idx : Nat} {q : Cond} (hts : ∀ w ∈ q :: tG, w.before args s = true) (hl : Cond.methodLink own idx y_MO_behind ∈ tG) (hR : rm_MO_behind.frames + 1 ≤ R.frames ∧ 8 + (3 + 11) + rm_MO_behind.locals ≤ R.locals) : CallB R s args own idx y_MO_behind b_MO_behind 3 (some .int) w_MO_behind rm_MO_behind 0 0 2 ∧ (Cond.static y_MO_behind).before args s = true := ⟨callB_of 2 hts (gx t_535) rfl rfl rfl (hts _ (List.mem_cons_of_mem _ t_6)) (hts _ (List.mem_cons_of_mem _ hl)) (by decide +kernel) hR, hts _ (List.mem_cons_of_mem _ t_534)⟩
abbrev y_MO_find : MethodName := ⟨"NibbleTrieModel", "find", "(II)I"⟩
abbrev b_MO_find : ByteArray := prog_7_method_5_code
abbrev w_MO_find : List Cond := Cond.code y_MO_find b_MO_find 4 (some .int) :: tG
def rm_MO_find : Room := { frames := 0, cells := 0, slots := 0, locals := 0 }
theorem cb_MO_find {R : Room} {s : State} {args : Array Value} {own : String} {idx : Nat} {q : Cond} (hts : ∀ w ∈ q :: tG, w.before args s = true) (hl : Cond.methodLink own idx y_MO_find ∈ tG) (hR : rm_MO_find.frames + 1 ≤ R.frames ∧ 8 + (4 + 11) + rm_MO_find.locals ≤ R.locals) : CallW R s args own "NibbleTrieModel" idx y_MO_find b_MO_find 4 (some .int) w_MO_find rm_MO_find 0 0 2 := ⟨callB_of 2 hts (gx t_476) rfl rfl rfl (hts _ (List.mem_cons_of_mem _ t_6)) (hts _ (List.mem_cons_of_mem _ hl)) (by decide +kernel) hR, hts _ (List.mem_cons_of_mem _ t_475), hts _ (List.mem_cons_of_mem _ ts_21)⟩
abbrev y_MO_copy : MethodName := ⟨"NibbleTrieModel", "copy", "(II)V"⟩
abbrev b_MO_copy : ByteArray := prog_7_method_6_code
abbrev w_MO_copy : List Cond := Cond.code y_MO_copy b_MO_copy 4 none :: tG
def rm_MO_copy : Room := { frames := 0, cells := 0, slots := 0, locals := 0 }
theorem cb_MO_copy {R : Room} {s : State} {args : Array Value} {own : String} {idx : Nat} {q : Cond} (hts : ∀ w ∈ q :: tG, w.before args s = true) (hl : Cond.methodLink own idx y_MO_copy ∈ tG) (hR : rm_MO_copy.frames + 1 ≤ R.frames ∧ 8 + (4 + 11) + rm_MO_copy.locals ≤ R.locals) : CallW R s args own "NibbleTrieModel" idx y_MO_copy b_MO_copy 4 none w_MO_copy rm_MO_copy 0 0 2 := ⟨callB_of 2 hts (gx t_571) rfl rfl rfl (hts _ (List.mem_cons_of_mem _ t_6)) (hts _ (List.mem_cons_of_mem _ hl)) (by decide +kernel) hR, hts _ (List.mem_cons_of_mem _ t_570), hts _ (List.mem_cons_of_mem _ ts_37)⟩
abbrev y_MO_put : MethodName := ⟨"NibbleTrieModel", "put", "(II)I"⟩
abbrev b_MO_put : ByteArray := prog_7_method_7_code
abbrev w_MO_put : List Cond := Cond.code y_MO_put b_MO_put 5 (some .int) :: tG
def rm_MO_put : Room := { frames := 1, cells := 0, slots := 0, locals := 23 }
theorem cb_MO_put {R : Room} {s : State} {args : Array Value} {own : String} {idx : Nat} {q : Cond} (hts : ∀ w ∈ q :: tG, w.before args s = true) (hl : Cond.methodLink own idx y_MO_put ∈ tG) (hR : rm_MO_put.frames + 1 ≤ R.frames ∧ 8 + (5 + 11) + rm_MO_put.locals ≤ R.locals) : CallW R s args own "NibbleTrieModel" idx y_MO_put b_MO_put 5 (some .int) w_MO_put rm_MO_put 0 0 2 := ⟨callB_of 2 hts (gx t_467) rfl rfl rfl (hts _ (List.mem_cons_of_mem _ t_6)) (hts _ (List.mem_cons_of_mem _ hl)) (by decide +kernel) hR, hts _ (List.mem_cons_of_mem _ t_465), hts _ (List.mem_cons_of_mem _ t_466)⟩
abbrev y_MO_valueIn : MethodName := ⟨"NibbleTrieModel", "valueIn", "(II)I"⟩
abbrev b_MO_valueIn : ByteArray := prog_7_method_8_code
abbrev w_MO_valueIn : List Cond := Cond.code y_MO_valueIn b_MO_valueIn 4 (some .int) :: tG
def rm_MO_valueIn : Room := { frames := 1, cells := 0, slots := 0, locals := 23 }
theorem cb_MO_valueIn {R : Room} {s : State} {args : Array Value} {own : String} {idx : Nat} {q : Cond} (hts : ∀ w ∈ q :: tG, w.before args s = true) (hl : Cond.methodLink own idx y_MO_valueIn ∈ tG) (hR : rm_MO_valueIn.frames + 1 ≤ R.frames ∧ 8 + (4 + 11) + rm_MO_valueIn.locals ≤ R.locals) : CallW R s args own "NibbleTrieModel" idx y_MO_valueIn b_MO_valueIn 4 (some .int) w_MO_valueIn rm_MO_valueIn 0 0 2 := ⟨callB_of 2 hts (gx t_484) rfl rfl rfl (hts _ (List.mem_cons_of_mem _ t_6)) (hts _ (List.mem_cons_of_mem _ hl)) (by decide +kernel) hR, hts _ (List.mem_cons_of_mem _ t_483), hts _ (List.mem_cons_of_mem _ ts_22)⟩
abbrev y_MO_get : MethodName := ⟨"NibbleTrieModel", "get", "(I)I"⟩
abbrev b_MO_get : ByteArray := prog_7_method_9_code
abbrev w_MO_get : List Cond := Cond.code y_MO_get b_MO_get 2 (some .int) :: tG
def rm_MO_get : Room := { frames := 2, cells := 0, slots := 0, locals := 46 }
theorem cb_MO_get {R : Room} {s : State} {args : Array Value} {own : String} {idx : Nat} {q : Cond} (hts : ∀ w ∈ q :: tG, w.before args s = true) (hl : Cond.methodLink own idx y_MO_get ∈ tG) (hR : rm_MO_get.frames + 1 ≤ R.frames ∧ 8 + (2 + 11) + rm_MO_get.locals ≤ R.locals) : CallW R s args own "NibbleTrieModel" idx y_MO_get b_MO_get 2 (some .int) w_MO_get rm_MO_get 0 0 1 := ⟨callB_of 1 hts (gx t_480) rfl rfl rfl (hts _ (List.mem_cons_of_mem _ t_6)) (hts _ (List.mem_cons_of_mem _ hl)) (by decide +kernel) hR, hts _ (List.mem_cons_of_mem _ t_478), hts _ (List.mem_cons_of_mem _ t_479)⟩
abbrev y_MO_size : MethodName := ⟨"NibbleTrieModel", "size", "()I"⟩
abbrev b_MO_size : ByteArray := prog_7_method_10_code
abbrev w_MO_size : List Cond := Cond.code y_MO_size b_MO_size 1 (some .int) :: tG
def rm_MO_size : Room := { frames := 0, cells := 0, slots := 0, locals := 0 }
theorem cb_MO_size {R : Room} {s : State} {args : Array Value} {own : String} {idx : Nat} {q : Cond} (hts : ∀ w ∈ q :: tG, w.before args s = true) (hl : Cond.methodLink own idx y_MO_size ∈ tG) (hR : rm_MO_size.frames + 1 ≤ R.frames ∧ 8 + (1 + 11) + rm_MO_size.locals ≤ R.locals) : CallW R s args own "NibbleTrieModel" idx y_MO_size b_MO_size 1 (some .int) w_MO_size rm_MO_size 0 0 0 := ⟨callB_of 0 hts (gx t_488) rfl rfl rfl (hts _ (List.mem_cons_of_mem _ t_6)) (hts _ (List.mem_cons_of_mem _ hl)) (by decide +kernel) hR, hts _ (List.mem_cons_of_mem _ t_486), hts _ (List.mem_cons_of_mem _ t_487)⟩
abbrev y_MO_members : MethodName := ⟨"NibbleTrieModel", "members", "(II)I"⟩
abbrev b_MO_members : ByteArray := prog_7_method_11_code
abbrev w_MO_members : List Cond := Cond.code y_MO_members b_MO_members 5 (some .int) :: tG
def rm_MO_members : Room := { frames := 2, cells := 0, slots := 0, locals := 42 }
theorem cb_MO_members {R : Room} {s : State} {args : Array Value} {own : String} {idx : Nat} {q : Cond} (hts : ∀ w ∈ q :: tG, w.before args s = true) (hl : Cond.methodLink own idx y_MO_members ∈ tG) (hR : rm_MO_members.frames + 1 ≤ R.frames ∧ 8 + (5 + 11) + rm_MO_members.locals ≤ R.locals) : CallW R s args own "NibbleTrieModel" idx y_MO_members b_MO_members 5 (some .int) w_MO_members rm_MO_members 0 0 2 := ⟨callB_of 2 hts (gx t_508) rfl rfl rfl (hts _ (List.mem_cons_of_mem _ t_6)) (hts _ (List.mem_cons_of_mem _ hl)) (by decide +kernel) hR, hts _ (List.mem_cons_of_mem _ t_507), hts _ (List.mem_cons_of_mem _ ts_26)⟩
abbrev y_MO_member : MethodName := ⟨"NibbleTrieModel", "member", "(II)I"⟩
abbrev b_MO_member : ByteArray := prog_7_method_12_code
abbrev w_MO_member : List Cond := Cond.code y_MO_member b_MO_member 4 (some .int) :: tG
def rm_MO_member : Room := { frames := 2, cells := 0, slots := 0, locals := 42 }
theorem cb_MO_member {R : Room} {s : State} {args : Array Value} {own : String} {idx : Nat} {q : Cond} (hts : ∀ w ∈ q :: tG, w.before args s = true) (hl : Cond.methodLink own idx y_MO_member ∈ tG) (hR : rm_MO_member.frames + 1 ≤ R.frames ∧ 8 + (4 + 11) + rm_MO_member.locals ≤ R.locals) : CallW R s args own "NibbleTrieModel" idx y_MO_member b_MO_member 4 (some .int) w_MO_member rm_MO_member 0 0 2 := ⟨callB_of 2 hts (gx t_519) rfl rfl rfl (hts _ (List.mem_cons_of_mem _ t_6)) (hts _ (List.mem_cons_of_mem _ hl)) (by decide +kernel) hR, hts _ (List.mem_cons_of_mem _ t_518), hts _ (List.mem_cons_of_mem _ ts_28)⟩
abbrev y_MO_common : MethodName := ⟨"NibbleTrieModel", "common", "(II)I"⟩
abbrev b_MO_common : ByteArray := prog_7_method_13_code
abbrev w_MO_common : List Cond := Cond.code y_MO_common b_MO_common 9 (some .int) :: tG
def rm_MO_common : Room := { frames := 3, cells := 0, slots := 0, locals := 66 }
theorem cb_MO_common {R : Room} {s : State} {args : Array Value} {own : String} {idx : Nat} {q : Cond} (hts : ∀ w ∈ q :: tG, w.before args s = true) (hl : Cond.methodLink own idx y_MO_common ∈ tG) (hR : rm_MO_common.frames + 1 ≤ R.frames ∧ 8 + (9 + 11) + rm_MO_common.locals ≤ R.locals) : CallW R s args own "NibbleTrieModel" idx y_MO_common b_MO_common 9 (some .int) w_MO_common rm_MO_common 0 0 2 := ⟨callB_of 2 hts (gx t_515) rfl rfl rfl (hts _ (List.mem_cons_of_mem _ t_6)) (hts _ (List.mem_cons_of_mem _ hl)) (by decide +kernel) hR, hts _ (List.mem_cons_of_mem _ t_514), hts _ (List.mem_cons_of_mem _ ts_27)⟩
abbrev y_MO_isBranch : MethodName := ⟨"NibbleTrieModel", "isBranch", "(II)Z"⟩
abbrev b_MO_isBranch : ByteArray := prog_7_method_14_code
abbrev w_MO_isBranch : List Cond := Cond.code y_MO_isBranch b_MO_isBranch 4 (some .boolean) :: tG
def rm_MO_isBranch : Room := { frames := 4, cells := 0, slots := 0, locals := 94 }
theorem cb_MO_isBranch {R : Room} {s : State} {args : Array Value} {own : String} {idx : Nat} {q : Cond} (hts : ∀ w ∈ q :: tG, w.before args s = true) (hl : Cond.methodLink own idx y_MO_isBranch ∈ tG) (hR : rm_MO_isBranch.frames + 1 ≤ R.frames ∧ 8 + (4 + 11) + rm_MO_isBranch.locals ≤ R.locals) : CallW R s args own "NibbleTrieModel" idx y_MO_isBranch b_MO_isBranch 4 (some .boolean) w_MO_isBranch rm_MO_isBranch 0 0 2 := ⟨callB_of 2 hts (gx t_504) rfl rfl rfl (hts _ (List.mem_cons_of_mem _ t_6)) (hts _ (List.mem_cons_of_mem _ hl)) (by decide +kernel) hR, hts _ (List.mem_cons_of_mem _ t_503), hts _ (List.mem_cons_of_mem _ ts_25)⟩
abbrev y_MO_place : MethodName := ⟨"NibbleTrieModel", "place", "(II)I"⟩
abbrev b_MO_place : ByteArray := prog_7_method_15_code
abbrev w_MO_place : List Cond := Cond.code y_MO_place b_MO_place 4 (some .int) :: tG
def rm_MO_place : Room := { frames := 0, cells := 0, slots := 0, locals := 0 }
theorem cb_MO_place {R : Room} {s : State} {args : Array Value} {own : String} {idx : Nat} {q : Cond} (hts : ∀ w ∈ q :: tG, w.before args s = true) (hl : Cond.methodLink own idx y_MO_place ∈ tG) (hR : rm_MO_place.frames + 1 ≤ R.frames ∧ 8 + (4 + 11) + rm_MO_place.locals ≤ R.locals) : CallW R s args own "NibbleTrieModel" idx y_MO_place b_MO_place 4 (some .int) w_MO_place rm_MO_place 0 0 2 := ⟨callB_of 2 hts (gx t_500) rfl rfl rfl (hts _ (List.mem_cons_of_mem _ t_6)) (hts _ (List.mem_cons_of_mem _ hl)) (by decide +kernel) hR, hts _ (List.mem_cons_of_mem _ t_499), hts _ (List.mem_cons_of_mem _ ts_24)⟩
abbrev y_MO_say : MethodName := ⟨"NibbleTrieModel", "say", "(J)V"⟩
abbrev b_MO_say : ByteArray := prog_7_method_16_code
abbrev w_MO_say : List Cond := Cond.code y_MO_say b_MO_say 3 none :: tG
def rm_MO_say : Room := { frames := 0, cells := 0, slots := 0, locals := 0 }
theorem cb_MO_say {R : Room} {s : State} {args : Array Value} {own : String} {idx : Nat} {q : Cond} (hts : ∀ w ∈ q :: tG, w.before args s = true) (hl : Cond.methodLink own idx y_MO_say ∈ tG) (hR : rm_MO_say.frames + 1 ≤ R.frames ∧ 8 + (3 + 11) + rm_MO_say.locals ≤ R.locals) : CallW R s args own "NibbleTrieModel" idx y_MO_say b_MO_say 3 none w_MO_say rm_MO_say 0 0 1 := ⟨callB_of 1 hts (gx t_531) rfl rfl rfl (hts _ (List.mem_cons_of_mem _ t_6)) (hts _ (List.mem_cons_of_mem _ hl)) (by decide +kernel) hR, hts _ (List.mem_cons_of_mem _ t_530), hts _ (List.mem_cons_of_mem _ ts_31)⟩
abbrev y_MO_reference : MethodName := ⟨"NibbleTrieModel", "reference", "(IIZ)V"⟩
abbrev b_MO_reference : ByteArray := prog_7_method_17_code
abbrev w_MO_reference : List Cond := Cond.code y_MO_reference b_MO_reference 6 none :: tG
def rm_MO_reference : Room := { frames := 4, cells := 0, slots := 0, locals := 94 }
theorem cb_MO_reference {R : Room} {s : State} {args : Array Value} {own : String} {idx : Nat} {q : Cond} (hts : ∀ w ∈ q :: tG, w.before args s = true) (hl : Cond.methodLink own idx y_MO_reference ∈ tG) (hR : rm_MO_reference.frames + 1 ≤ R.frames ∧ 8 + (6 + 11) + rm_MO_reference.locals ≤ R.locals) : CallW R s args own "NibbleTrieModel" idx y_MO_reference b_MO_reference 6 none w_MO_reference rm_MO_reference 0 0 3 := ⟨callB_of 3 hts (gx t_527) rfl rfl rfl (hts _ (List.mem_cons_of_mem _ t_6)) (hts _ (List.mem_cons_of_mem _ hl)) (by decide +kernel) hR, hts _ (List.mem_cons_of_mem _ t_526), hts _ (List.mem_cons_of_mem _ ts_30)⟩
abbrev y_MO_encode : MethodName := ⟨"NibbleTrieModel", "encode", "(II)V"⟩
abbrev b_MO_encode : ByteArray := prog_7_method_18_code
abbrev w_MO_encode : List Cond := Cond.code y_MO_encode b_MO_encode 4 none :: tG
def rm_MO_encode : Room := { frames := 5, cells := 0, slots := 0, locals := 119 }
theorem cb_MO_encode {R : Room} {s : State} {args : Array Value} {own : String} {idx : Nat} {q : Cond} (hts : ∀ w ∈ q :: tG, w.before args s = true) (hl : Cond.methodLink own idx y_MO_encode ∈ tG) (hR : rm_MO_encode.frames + 1 ≤ R.frames ∧ 8 + (4 + 11) + rm_MO_encode.locals ≤ R.locals) : CallW R s args own "NibbleTrieModel" idx y_MO_encode b_MO_encode 4 none w_MO_encode rm_MO_encode 0 0 2 := ⟨callB_of 2 hts (gx t_523) rfl rfl rfl (hts _ (List.mem_cons_of_mem _ t_6)) (hts _ (List.mem_cons_of_mem _ hl)) (by decide +kernel) hR, hts _ (List.mem_cons_of_mem _ t_522), hts _ (List.mem_cons_of_mem _ ts_29)⟩
abbrev y_MO_mixed : MethodName := ⟨"NibbleTrieModel", "mixed", "(JJ)J"⟩
abbrev b_MO_mixed : ByteArray := prog_7_method_19_code
abbrev w_MO_mixed : List Cond := Cond.code y_MO_mixed b_MO_mixed 6 (some .long) :: tG
def rm_MO_mixed : Room := { frames := 0, cells := 0, slots := 0, locals := 0 }
theorem cb_MO_mixed {R : Room} {s : State} {args : Array Value} {own : String} {idx : Nat} {q : Cond} (hts : ∀ w ∈ q :: tG, w.before args s = true) (hl : Cond.methodLink own idx y_MO_mixed ∈ tG) (hR : rm_MO_mixed.frames + 1 ≤ R.frames ∧ 8 + (6 + 11) + rm_MO_mixed.locals ≤ R.locals) : CallB R s args own idx y_MO_mixed b_MO_mixed 6 (some .long) w_MO_mixed rm_MO_mixed 0 0 2 ∧ (Cond.static y_MO_mixed).before args s = true := ⟨callB_of 2 hts (gx t_542) rfl rfl rfl (hts _ (List.mem_cons_of_mem _ t_6)) (hts _ (List.mem_cons_of_mem _ hl)) (by decide +kernel) hR, hts _ (List.mem_cons_of_mem _ t_541)⟩
abbrev y_MO_digestOfWords : MethodName := ⟨"NibbleTrieModel", "digestOfWords", "()J"⟩
abbrev b_MO_digestOfWords : ByteArray := prog_7_method_20_code
abbrev w_MO_digestOfWords : List Cond := Cond.code y_MO_digestOfWords b_MO_digestOfWords 4 (some .long) :: tG
def rm_MO_digestOfWords : Room := { frames := 1, cells := 0, slots := 0, locals := 25 }
theorem cb_MO_digestOfWords {R : Room} {s : State} {args : Array Value} {own : String} {idx : Nat} {q : Cond} (hts : ∀ w ∈ q :: tG, w.before args s = true) (hl : Cond.methodLink own idx y_MO_digestOfWords ∈ tG) (hR : rm_MO_digestOfWords.frames + 1 ≤ R.frames ∧ 8 + (4 + 11) + rm_MO_digestOfWords.locals ≤ R.locals) : CallW R s args own "NibbleTrieModel" idx y_MO_digestOfWords b_MO_digestOfWords 4 (some .long) w_MO_digestOfWords rm_MO_digestOfWords 0 0 0 := ⟨callB_of 0 hts (gx t_539) rfl rfl rfl (hts _ (List.mem_cons_of_mem _ t_6)) (hts _ (List.mem_cons_of_mem _ hl)) (by decide +kernel) hR, hts _ (List.mem_cons_of_mem _ t_538), hts _ (List.mem_cons_of_mem _ ts_32)⟩
abbrev y_MO_build : MethodName := ⟨"NibbleTrieModel", "build", "(I)V"⟩
abbrev b_MO_build : ByteArray := prog_7_method_21_code
abbrev w_MO_build : List Cond := Cond.code y_MO_build b_MO_build 6 none :: tG
def rm_MO_build : Room := { frames := 6, cells := 0, slots := 0, locals := 142 }
theorem cb_MO_build {R : Room} {s : State} {args : Array Value} {own : String} {idx : Nat} {q : Cond} (hts : ∀ w ∈ q :: tG, w.before args s = true) (hl : Cond.methodLink own idx y_MO_build ∈ tG) (hR : rm_MO_build.frames + 1 ≤ R.frames ∧ 8 + (6 + 11) + rm_MO_build.locals ≤ R.locals) : CallW R s args own "NibbleTrieModel" idx y_MO_build b_MO_build 6 none w_MO_build rm_MO_build 0 0 1 := ⟨callB_of 1 hts (gx t_496) rfl rfl rfl (hts _ (List.mem_cons_of_mem _ t_6)) (hts _ (List.mem_cons_of_mem _ hl)) (by decide +kernel) hR, hts _ (List.mem_cons_of_mem _ t_495), hts _ (List.mem_cons_of_mem _ ts_23)⟩
abbrev y_MO_rootOf : MethodName := ⟨"NibbleTrieModel", "rootOf", "(I)J"⟩
abbrev b_MO_rootOf : ByteArray := prog_7_method_22_code
abbrev w_MO_rootOf : List Cond := Cond.code y_MO_rootOf b_MO_rootOf 2 (some .long) :: tG
def rm_MO_rootOf : Room := { frames := 5, cells := 0, slots := 0, locals := 119 }
theorem cb_MO_rootOf {R : Room} {s : State} {args : Array Value} {own : String} {idx : Nat} {q : Cond} (hts : ∀ w ∈ q :: tG, w.before args s = true) (hl : Cond.methodLink own idx y_MO_rootOf ∈ tG) (hR : rm_MO_rootOf.frames + 1 ≤ R.frames ∧ 8 + (2 + 11) + rm_MO_rootOf.locals ≤ R.locals) : CallW R s args own "NibbleTrieModel" idx y_MO_rootOf b_MO_rootOf 2 (some .long) w_MO_rootOf rm_MO_rootOf 0 0 1 := ⟨callB_of 1 hts (gx t_547) rfl rfl rfl (hts _ (List.mem_cons_of_mem _ t_6)) (hts _ (List.mem_cons_of_mem _ hl)) (by decide +kernel) hR, hts _ (List.mem_cons_of_mem _ t_546), hts _ (List.mem_cons_of_mem _ ts_33)⟩
abbrev y_MO_root : MethodName := ⟨"NibbleTrieModel", "root", "()J"⟩
abbrev b_MO_root : ByteArray := prog_7_method_23_code
abbrev w_MO_root : List Cond := Cond.code y_MO_root b_MO_root 1 (some .long) :: tG
def rm_MO_root : Room := { frames := 7, cells := 0, slots := 0, locals := 167 }
theorem cb_MO_root {R : Room} {s : State} {args : Array Value} {own : String} {idx : Nat} {q : Cond} (hts : ∀ w ∈ q :: tG, w.before args s = true) (hl : Cond.methodLink own idx y_MO_root ∈ tG) (hR : rm_MO_root.frames + 1 ≤ R.frames ∧ 8 + (1 + 11) + rm_MO_root.locals ≤ R.locals) : CallW R s args own "NibbleTrieModel" idx y_MO_root b_MO_root 1 (some .long) w_MO_root rm_MO_root 0 0 0 := ⟨callB_of 0 hts (gx t_492) rfl rfl rfl (hts _ (List.mem_cons_of_mem _ t_6)) (hts _ (List.mem_cons_of_mem _ hl)) (by decide +kernel) hR, hts _ (List.mem_cons_of_mem _ t_490), hts _ (List.mem_cons_of_mem _ t_491)⟩
abbrev y_MO_count : MethodName := ⟨"NibbleTrieModel", "count", "(I)I"⟩
abbrev b_MO_count : ByteArray := prog_7_method_24_code
abbrev w_MO_count : List Cond := Cond.code y_MO_count b_MO_count 8 (some .int) :: tG
def rm_MO_count : Room := { frames := 7, cells := 0, slots := 0, locals := 167 }
theorem cb_MO_count {R : Room} {s : State} {args : Array Value} {own : String} {idx : Nat} {q : Cond} (hts : ∀ w ∈ q :: tG, w.before args s = true) (hl : Cond.methodLink own idx y_MO_count ∈ tG) (hR : rm_MO_count.frames + 1 ≤ R.frames ∧ 8 + (8 + 11) + rm_MO_count.locals ≤ R.locals) : CallW R s args own "NibbleTrieModel" idx y_MO_count b_MO_count 8 (some .int) w_MO_count rm_MO_count 0 0 1 := ⟨callB_of 1 hts (gx t_551) rfl rfl rfl (hts _ (List.mem_cons_of_mem _ t_6)) (hts _ (List.mem_cons_of_mem _ hl)) (by decide +kernel) hR, hts _ (List.mem_cons_of_mem _ t_549), hts _ (List.mem_cons_of_mem _ t_550)⟩
abbrev y_MO_same : MethodName := ⟨"NibbleTrieModel", "same", "(II)Z"⟩
abbrev b_MO_same : ByteArray := prog_7_method_25_code
abbrev w_MO_same : List Cond := Cond.code y_MO_same b_MO_same 10 (some .boolean) :: tG
def rm_MO_same : Room := { frames := 3, cells := 0, slots := 0, locals := 66 }
theorem cb_MO_same {R : Room} {s : State} {args : Array Value} {own : String} {idx : Nat} {q : Cond} (hts : ∀ w ∈ q :: tG, w.before args s = true) (hl : Cond.methodLink own idx y_MO_same ∈ tG) (hR : rm_MO_same.frames + 1 ≤ R.frames ∧ 8 + (10 + 11) + rm_MO_same.locals ≤ R.locals) : CallW R s args own "NibbleTrieModel" idx y_MO_same b_MO_same 10 (some .boolean) w_MO_same rm_MO_same 0 0 2 := ⟨callB_of 2 hts (gx t_563) rfl rfl rfl (hts _ (List.mem_cons_of_mem _ t_6)) (hts _ (List.mem_cons_of_mem _ hl)) (by decide +kernel) hR, hts _ (List.mem_cons_of_mem _ t_562), hts _ (List.mem_cons_of_mem _ ts_35)⟩
abbrev y_MO_stands : MethodName := ⟨"NibbleTrieModel", "stands", "(I)Z"⟩
abbrev b_MO_stands : ByteArray := prog_7_method_26_code
abbrev w_MO_stands : List Cond := Cond.code y_MO_stands b_MO_stands 3 (some .boolean) :: tG
def rm_MO_stands : Room := { frames := 4, cells := 0, slots := 0, locals := 95 }
theorem cb_MO_stands {R : Room} {s : State} {args : Array Value} {own : String} {idx : Nat} {q : Cond} (hts : ∀ w ∈ q :: tG, w.before args s = true) (hl : Cond.methodLink own idx y_MO_stands ∈ tG) (hR : rm_MO_stands.frames + 1 ≤ R.frames ∧ 8 + (3 + 11) + rm_MO_stands.locals ≤ R.locals) : CallW R s args own "NibbleTrieModel" idx y_MO_stands b_MO_stands 3 (some .boolean) w_MO_stands rm_MO_stands 0 0 1 := ⟨callB_of 1 hts (gx t_599) rfl rfl rfl (hts _ (List.mem_cons_of_mem _ t_6)) (hts _ (List.mem_cons_of_mem _ hl)) (by decide +kernel) hR, hts _ (List.mem_cons_of_mem _ t_598), hts _ (List.mem_cons_of_mem _ ts_39)⟩
abbrev y_MO_has : MethodName := ⟨"NibbleTrieModel", "has", "(I)Z"⟩
abbrev b_MO_has : ByteArray := prog_7_method_27_code
abbrev w_MO_has : List Cond := Cond.code y_MO_has b_MO_has 4 (some .boolean) :: tG
def rm_MO_has : Room := { frames := 4, cells := 0, slots := 0, locals := 95 }
theorem cb_MO_has {R : Room} {s : State} {args : Array Value} {own : String} {idx : Nat} {q : Cond} (hts : ∀ w ∈ q :: tG, w.before args s = true) (hl : Cond.methodLink own idx y_MO_has ∈ tG) (hR : rm_MO_has.frames + 1 ≤ R.frames ∧ 8 + (4 + 11) + rm_MO_has.locals ≤ R.locals) : CallW R s args own "NibbleTrieModel" idx y_MO_has b_MO_has 4 (some .boolean) w_MO_has rm_MO_has 0 0 1 := ⟨callB_of 1 hts (gx t_559) rfl rfl rfl (hts _ (List.mem_cons_of_mem _ t_6)) (hts _ (List.mem_cons_of_mem _ hl)) (by decide +kernel) hR, hts _ (List.mem_cons_of_mem _ t_558), hts _ (List.mem_cons_of_mem _ ts_34)⟩
abbrev y_MO_back : MethodName := ⟨"NibbleTrieModel", "back", "()V"⟩
abbrev b_MO_back : ByteArray := prog_7_method_28_code
abbrev w_MO_back : List Cond := Cond.code y_MO_back b_MO_back 1 none :: tG
def rm_MO_back : Room := { frames := 1, cells := 0, slots := 0, locals := 23 }
theorem cb_MO_back {R : Room} {s : State} {args : Array Value} {own : String} {idx : Nat} {q : Cond} (hts : ∀ w ∈ q :: tG, w.before args s = true) (hl : Cond.methodLink own idx y_MO_back ∈ tG) (hR : rm_MO_back.frames + 1 ≤ R.frames ∧ 8 + (1 + 11) + rm_MO_back.locals ≤ R.locals) : CallW R s args own "NibbleTrieModel" idx y_MO_back b_MO_back 1 none w_MO_back rm_MO_back 0 0 0 := ⟨callB_of 0 hts (gx t_567) rfl rfl rfl (hts _ (List.mem_cons_of_mem _ t_6)) (hts _ (List.mem_cons_of_mem _ hl)) (by decide +kernel) hR, hts _ (List.mem_cons_of_mem _ t_566), hts _ (List.mem_cons_of_mem _ ts_36)⟩
abbrev y_MO_commit : MethodName := ⟨"NibbleTrieModel", "commit", "(I)I"⟩
abbrev b_MO_commit : ByteArray := prog_7_method_29_code
abbrev w_MO_commit : List Cond := Cond.code y_MO_commit b_MO_commit 4 (some .int) :: tG
def rm_MO_commit : Room := { frames := 7, cells := 0, slots := 0, locals := 167 }
theorem cb_MO_commit {R : Room} {s : State} {args : Array Value} {own : String} {idx : Nat} {q : Cond} (hts : ∀ w ∈ q :: tG, w.before args s = true) (hl : Cond.methodLink own idx y_MO_commit ∈ tG) (hR : rm_MO_commit.frames + 1 ≤ R.frames ∧ 8 + (4 + 11) + rm_MO_commit.locals ≤ R.locals) : CallW R s args own "NibbleTrieModel" idx y_MO_commit b_MO_commit 4 (some .int) w_MO_commit rm_MO_commit 0 0 1 := ⟨callB_of 1 hts (gx t_555) rfl rfl rfl (hts _ (List.mem_cons_of_mem _ t_6)) (hts _ (List.mem_cons_of_mem _ hl)) (by decide +kernel) hR, hts _ (List.mem_cons_of_mem _ t_553), hts _ (List.mem_cons_of_mem _ t_554)⟩
abbrev y_MO_crash : MethodName := ⟨"NibbleTrieModel", "crash", "()I"⟩
abbrev b_MO_crash : ByteArray := prog_7_method_30_code
abbrev w_MO_crash : List Cond := Cond.code y_MO_crash b_MO_crash 1 (some .int) :: tG
def rm_MO_crash : Room := { frames := 2, cells := 0, slots := 0, locals := 43 }
theorem cb_MO_crash {R : Room} {s : State} {args : Array Value} {own : String} {idx : Nat} {q : Cond} (hts : ∀ w ∈ q :: tG, w.before args s = true) (hl : Cond.methodLink own idx y_MO_crash ∈ tG) (hR : rm_MO_crash.frames + 1 ≤ R.frames ∧ 8 + (1 + 11) + rm_MO_crash.locals ≤ R.locals) : CallW R s args own "NibbleTrieModel" idx y_MO_crash b_MO_crash 1 (some .int) w_MO_crash rm_MO_crash 0 0 0 := ⟨callB_of 0 hts (gx t_575) rfl rfl rfl (hts _ (List.mem_cons_of_mem _ t_6)) (hts _ (List.mem_cons_of_mem _ hl)) (by decide +kernel) hR, hts _ (List.mem_cons_of_mem _ t_573), hts _ (List.mem_cons_of_mem _ t_574)⟩
abbrev y_MO_versions : MethodName := ⟨"NibbleTrieModel", "versions", "()I"⟩
abbrev b_MO_versions : ByteArray := prog_7_method_31_code
abbrev w_MO_versions : List Cond := Cond.code y_MO_versions b_MO_versions 1 (some .int) :: tG
def rm_MO_versions : Room := { frames := 0, cells := 0, slots := 0, locals := 0 }
theorem cb_MO_versions {R : Room} {s : State} {args : Array Value} {own : String} {idx : Nat} {q : Cond} (hts : ∀ w ∈ q :: tG, w.before args s = true) (hl : Cond.methodLink own idx y_MO_versions ∈ tG) (hR : rm_MO_versions.frames + 1 ≤ R.frames ∧ 8 + (1 + 11) + rm_MO_versions.locals ≤ R.locals) : CallW R s args own "NibbleTrieModel" idx y_MO_versions b_MO_versions 1 (some .int) w_MO_versions rm_MO_versions 0 0 0 := ⟨callB_of 0 hts (gx t_579) rfl rfl rfl (hts _ (List.mem_cons_of_mem _ t_6)) (hts _ (List.mem_cons_of_mem _ hl)) (by decide +kernel) hR, hts _ (List.mem_cons_of_mem _ t_577), hts _ (List.mem_cons_of_mem _ t_578)⟩
abbrev y_MO_isVersion : MethodName := ⟨"NibbleTrieModel", "isVersion", "(I)Z"⟩
abbrev b_MO_isVersion : ByteArray := prog_7_method_32_code
abbrev w_MO_isVersion : List Cond := Cond.code y_MO_isVersion b_MO_isVersion 2 (some .boolean) :: tG
def rm_MO_isVersion : Room := { frames := 0, cells := 0, slots := 0, locals := 0 }
theorem cb_MO_isVersion {R : Room} {s : State} {args : Array Value} {own : String} {idx : Nat} {q : Cond} (hts : ∀ w ∈ q :: tG, w.before args s = true) (hl : Cond.methodLink own idx y_MO_isVersion ∈ tG) (hR : rm_MO_isVersion.frames + 1 ≤ R.frames ∧ 8 + (2 + 11) + rm_MO_isVersion.locals ≤ R.locals) : CallW R s args own "NibbleTrieModel" idx y_MO_isVersion b_MO_isVersion 2 (some .boolean) w_MO_isVersion rm_MO_isVersion 0 0 1 := ⟨callB_of 1 hts (gx t_587) rfl rfl rfl (hts _ (List.mem_cons_of_mem _ t_6)) (hts _ (List.mem_cons_of_mem _ hl)) (by decide +kernel) hR, hts _ (List.mem_cons_of_mem _ t_586), hts _ (List.mem_cons_of_mem _ ts_38)⟩
abbrev y_MO_at : MethodName := ⟨"NibbleTrieModel", "at", "(II)I"⟩
abbrev b_MO_at : ByteArray := prog_7_method_33_code
abbrev w_MO_at : List Cond := Cond.code y_MO_at b_MO_at 3 (some .int) :: tG
def rm_MO_at : Room := { frames := 2, cells := 0, slots := 0, locals := 46 }
theorem cb_MO_at {R : Room} {s : State} {args : Array Value} {own : String} {idx : Nat} {q : Cond} (hts : ∀ w ∈ q :: tG, w.before args s = true) (hl : Cond.methodLink own idx y_MO_at ∈ tG) (hR : rm_MO_at.frames + 1 ≤ R.frames ∧ 8 + (3 + 11) + rm_MO_at.locals ≤ R.locals) : CallW R s args own "NibbleTrieModel" idx y_MO_at b_MO_at 3 (some .int) w_MO_at rm_MO_at 0 0 2 := ⟨callB_of 2 hts (gx t_583) rfl rfl rfl (hts _ (List.mem_cons_of_mem _ t_6)) (hts _ (List.mem_cons_of_mem _ hl)) (by decide +kernel) hR, hts _ (List.mem_cons_of_mem _ t_581), hts _ (List.mem_cons_of_mem _ t_582)⟩
abbrev y_MO_rootAt : MethodName := ⟨"NibbleTrieModel", "rootAt", "(I)J"⟩
abbrev b_MO_rootAt : ByteArray := prog_7_method_34_code
abbrev w_MO_rootAt : List Cond := Cond.code y_MO_rootAt b_MO_rootAt 2 (some .long) :: tG
def rm_MO_rootAt : Room := { frames := 6, cells := 0, slots := 0, locals := 140 }
theorem cb_MO_rootAt {R : Room} {s : State} {args : Array Value} {own : String} {idx : Nat} {q : Cond} (hts : ∀ w ∈ q :: tG, w.before args s = true) (hl : Cond.methodLink own idx y_MO_rootAt ∈ tG) (hR : rm_MO_rootAt.frames + 1 ≤ R.frames ∧ 8 + (2 + 11) + rm_MO_rootAt.locals ≤ R.locals) : CallW R s args own "NibbleTrieModel" idx y_MO_rootAt b_MO_rootAt 2 (some .long) w_MO_rootAt rm_MO_rootAt 0 0 1 := ⟨callB_of 1 hts (gx t_591) rfl rfl rfl (hts _ (List.mem_cons_of_mem _ t_6)) (hts _ (List.mem_cons_of_mem _ hl)) (by decide +kernel) hR, hts _ (List.mem_cons_of_mem _ t_589), hts _ (List.mem_cons_of_mem _ t_590)⟩
abbrev y_MO_stored : MethodName := ⟨"NibbleTrieModel", "stored", "()I"⟩
abbrev b_MO_stored : ByteArray := prog_7_method_35_code
abbrev w_MO_stored : List Cond := Cond.code y_MO_stored b_MO_stored 3 (some .int) :: tG
def rm_MO_stored : Room := { frames := 5, cells := 0, slots := 0, locals := 117 }
theorem cb_MO_stored {R : Room} {s : State} {args : Array Value} {own : String} {idx : Nat} {q : Cond} (hts : ∀ w ∈ q :: tG, w.before args s = true) (hl : Cond.methodLink own idx y_MO_stored ∈ tG) (hR : rm_MO_stored.frames + 1 ≤ R.frames ∧ 8 + (3 + 11) + rm_MO_stored.locals ≤ R.locals) : CallW R s args own "NibbleTrieModel" idx y_MO_stored b_MO_stored 3 (some .int) w_MO_stored rm_MO_stored 0 0 0 := ⟨callB_of 0 hts (gx t_595) rfl rfl rfl (hts _ (List.mem_cons_of_mem _ t_6)) (hts _ (List.mem_cons_of_mem _ hl)) (by decide +kernel) hR, hts _ (List.mem_cons_of_mem _ t_593), hts _ (List.mem_cons_of_mem _ t_594)⟩
abbrev y_MO_leads : MethodName := ⟨"NibbleTrieModel", "leads", "(III)Z"⟩
abbrev b_MO_leads : ByteArray := prog_7_method_36_code
abbrev w_MO_leads : List Cond := Cond.code y_MO_leads b_MO_leads 7 (some .boolean) :: tG
def rm_MO_leads : Room := { frames := 4, cells := 0, slots := 0, locals := 95 }
theorem cb_MO_leads {R : Room} {s : State} {args : Array Value} {own : String} {idx : Nat} {q : Cond} (hts : ∀ w ∈ q :: tG, w.before args s = true) (hl : Cond.methodLink own idx y_MO_leads ∈ tG) (hR : rm_MO_leads.frames + 1 ≤ R.frames ∧ 8 + (7 + 11) + rm_MO_leads.locals ≤ R.locals) : CallW R s args own "NibbleTrieModel" idx y_MO_leads b_MO_leads 7 (some .boolean) w_MO_leads rm_MO_leads 0 0 3 := ⟨callB_of 3 hts (gx t_611) rfl rfl rfl (hts _ (List.mem_cons_of_mem _ t_6)) (hts _ (List.mem_cons_of_mem _ hl)) (by decide +kernel) hR, hts _ (List.mem_cons_of_mem _ t_610), hts _ (List.mem_cons_of_mem _ ts_41)⟩
abbrev y_MO_usesOf : MethodName := ⟨"NibbleTrieModel", "usesOf", "(I)I"⟩
abbrev b_MO_usesOf : ByteArray := prog_7_method_37_code
abbrev w_MO_usesOf : List Cond := Cond.code y_MO_usesOf b_MO_usesOf 6 (some .int) :: tG
def rm_MO_usesOf : Room := { frames := 5, cells := 0, slots := 0, locals := 121 }
theorem cb_MO_usesOf {R : Room} {s : State} {args : Array Value} {own : String} {idx : Nat} {q : Cond} (hts : ∀ w ∈ q :: tG, w.before args s = true) (hl : Cond.methodLink own idx y_MO_usesOf ∈ tG) (hR : rm_MO_usesOf.frames + 1 ≤ R.frames ∧ 8 + (6 + 11) + rm_MO_usesOf.locals ≤ R.locals) : CallW R s args own "NibbleTrieModel" idx y_MO_usesOf b_MO_usesOf 6 (some .int) w_MO_usesOf rm_MO_usesOf 0 0 1 := ⟨callB_of 1 hts (gx t_607) rfl rfl rfl (hts _ (List.mem_cons_of_mem _ t_6)) (hts _ (List.mem_cons_of_mem _ hl)) (by decide +kernel) hR, hts _ (List.mem_cons_of_mem _ t_606), hts _ (List.mem_cons_of_mem _ ts_40)⟩
abbrev y_MO_uses : MethodName := ⟨"NibbleTrieModel", "uses", "(J)I"⟩
abbrev b_MO_uses : ByteArray := prog_7_method_38_code
abbrev w_MO_uses : List Cond := Cond.code y_MO_uses b_MO_uses 5 (some .int) :: tG
def rm_MO_uses : Room := { frames := 6, cells := 0, slots := 0, locals := 146 }
theorem cb_MO_uses {R : Room} {s : State} {args : Array Value} {own : String} {idx : Nat} {q : Cond} (hts : ∀ w ∈ q :: tG, w.before args s = true) (hl : Cond.methodLink own idx y_MO_uses ∈ tG) (hR : rm_MO_uses.frames + 1 ≤ R.frames ∧ 8 + (5 + 11) + rm_MO_uses.locals ≤ R.locals) : CallW R s args own "NibbleTrieModel" idx y_MO_uses b_MO_uses 5 (some .int) w_MO_uses rm_MO_uses 0 0 1 := ⟨callB_of 1 hts (gx t_603) rfl rfl rfl (hts _ (List.mem_cons_of_mem _ t_6)) (hts _ (List.mem_cons_of_mem _ hl)) (by decide +kernel) hR, hts _ (List.mem_cons_of_mem _ t_601), hts _ (List.mem_cons_of_mem _ t_602)⟩
abbrev y_MO_append : MethodName := ⟨"NibbleTrieModel", "append", "()V"⟩
abbrev b_MO_append : ByteArray := prog_7_method_39_code
abbrev w_MO_append : List Cond := Cond.code y_MO_append b_MO_append 2 none :: tG
def rm_MO_append : Room := { frames := 0, cells := 0, slots := 0, locals := 0 }
theorem cb_MO_append {R : Room} {s : State} {args : Array Value} {own : String} {idx : Nat} {q : Cond} (hts : ∀ w ∈ q :: tG, w.before args s = true) (hl : Cond.methodLink own idx y_MO_append ∈ tG) (hR : rm_MO_append.frames + 1 ≤ R.frames ∧ 8 + (2 + 11) + rm_MO_append.locals ≤ R.locals) : CallW R s args own "NibbleTrieModel" idx y_MO_append b_MO_append 2 none w_MO_append rm_MO_append 0 0 0 := ⟨callB_of 0 hts (gx t_619) rfl rfl rfl (hts _ (List.mem_cons_of_mem _ t_6)) (hts _ (List.mem_cons_of_mem _ hl)) (by decide +kernel) hR, hts _ (List.mem_cons_of_mem _ t_618), hts _ (List.mem_cons_of_mem _ ts_42)⟩
abbrev y_MO_prove : MethodName := ⟨"NibbleTrieModel", "prove", "(II)I"⟩
abbrev b_MO_prove : ByteArray := prog_7_method_40_code
abbrev w_MO_prove : List Cond := Cond.code y_MO_prove b_MO_prove 6 (some .int) :: tG
def rm_MO_prove : Room := { frames := 6, cells := 0, slots := 0, locals := 142 }
theorem cb_MO_prove {R : Room} {s : State} {args : Array Value} {own : String} {idx : Nat} {q : Cond} (hts : ∀ w ∈ q :: tG, w.before args s = true) (hl : Cond.methodLink own idx y_MO_prove ∈ tG) (hR : rm_MO_prove.frames + 1 ≤ R.frames ∧ 8 + (6 + 11) + rm_MO_prove.locals ≤ R.locals) : CallW R s args own "NibbleTrieModel" idx y_MO_prove b_MO_prove 6 (some .int) w_MO_prove rm_MO_prove 0 0 2 := ⟨callB_of 2 hts (gx t_615) rfl rfl rfl (hts _ (List.mem_cons_of_mem _ t_6)) (hts _ (List.mem_cons_of_mem _ hl)) (by decide +kernel) hR, hts _ (List.mem_cons_of_mem _ t_613), hts _ (List.mem_cons_of_mem _ t_614)⟩
abbrev y_MO_word : MethodName := ⟨"NibbleTrieModel", "word", "(I)J"⟩
abbrev b_MO_word : ByteArray := prog_7_method_41_code
abbrev w_MO_word : List Cond := Cond.code y_MO_word b_MO_word 2 (some .long) :: tG
def rm_MO_word : Room := { frames := 0, cells := 0, slots := 0, locals := 0 }
theorem cb_MO_word {R : Room} {s : State} {args : Array Value} {own : String} {idx : Nat} {q : Cond} (hts : ∀ w ∈ q :: tG, w.before args s = true) (hl : Cond.methodLink own idx y_MO_word ∈ tG) (hR : rm_MO_word.frames + 1 ≤ R.frames ∧ 8 + (2 + 11) + rm_MO_word.locals ≤ R.locals) : CallW R s args own "NibbleTrieModel" idx y_MO_word b_MO_word 2 (some .long) w_MO_word rm_MO_word 0 0 1 := ⟨callB_of 1 hts (gx t_623) rfl rfl rfl (hts _ (List.mem_cons_of_mem _ t_6)) (hts _ (List.mem_cons_of_mem _ hl)) (by decide +kernel) hR, hts _ (List.mem_cons_of_mem _ t_621), hts _ (List.mem_cons_of_mem _ t_622)⟩
abbrev y_MO_alter : MethodName := ⟨"NibbleTrieModel", "alter", "(IJ)Z"⟩
abbrev b_MO_alter : ByteArray := prog_7_method_42_code
abbrev w_MO_alter : List Cond := Cond.code y_MO_alter b_MO_alter 4 (some .boolean) :: tG
def rm_MO_alter : Room := { frames := 0, cells := 0, slots := 0, locals := 0 }
theorem cb_MO_alter {R : Room} {s : State} {args : Array Value} {own : String} {idx : Nat} {q : Cond} (hts : ∀ w ∈ q :: tG, w.before args s = true) (hl : Cond.methodLink own idx y_MO_alter ∈ tG) (hR : rm_MO_alter.frames + 1 ≤ R.frames ∧ 8 + (4 + 11) + rm_MO_alter.locals ≤ R.locals) : CallW R s args own "NibbleTrieModel" idx y_MO_alter b_MO_alter 4 (some .boolean) w_MO_alter rm_MO_alter 0 0 2 := ⟨callB_of 2 hts (gx t_627) rfl rfl rfl (hts _ (List.mem_cons_of_mem _ t_6)) (hts _ (List.mem_cons_of_mem _ hl)) (by decide +kernel) hR, hts _ (List.mem_cons_of_mem _ t_625), hts _ (List.mem_cons_of_mem _ t_626)⟩
abbrev y_MO_cut : MethodName := ⟨"NibbleTrieModel", "cut", "()I"⟩
abbrev b_MO_cut : ByteArray := prog_7_method_43_code
abbrev w_MO_cut : List Cond := Cond.code y_MO_cut b_MO_cut 1 (some .int) :: tG
def rm_MO_cut : Room := { frames := 0, cells := 0, slots := 0, locals := 0 }
theorem cb_MO_cut {R : Room} {s : State} {args : Array Value} {own : String} {idx : Nat} {q : Cond} (hts : ∀ w ∈ q :: tG, w.before args s = true) (hl : Cond.methodLink own idx y_MO_cut ∈ tG) (hR : rm_MO_cut.frames + 1 ≤ R.frames ∧ 8 + (1 + 11) + rm_MO_cut.locals ≤ R.locals) : CallW R s args own "NibbleTrieModel" idx y_MO_cut b_MO_cut 1 (some .int) w_MO_cut rm_MO_cut 0 0 0 := ⟨callB_of 0 hts (gx t_631) rfl rfl rfl (hts _ (List.mem_cons_of_mem _ t_6)) (hts _ (List.mem_cons_of_mem _ hl)) (by decide +kernel) hR, hts _ (List.mem_cons_of_mem _ t_629), hts _ (List.mem_cons_of_mem _ t_630)⟩
abbrev y_MO_few : MethodName := ⟨"NibbleTrieModel", "few", "(J)Z"⟩
abbrev b_MO_few : ByteArray := prog_7_method_44_code
abbrev w_MO_few : List Cond := Cond.code y_MO_few b_MO_few 2 (some .boolean) :: tG
def rm_MO_few : Room := { frames := 0, cells := 0, slots := 0, locals := 0 }
theorem cb_MO_few {R : Room} {s : State} {args : Array Value} {own : String} {idx : Nat} {q : Cond} (hts : ∀ w ∈ q :: tG, w.before args s = true) (hl : Cond.methodLink own idx y_MO_few ∈ tG) (hR : rm_MO_few.frames + 1 ≤ R.frames ∧ 8 + (2 + 11) + rm_MO_few.locals ≤ R.locals) : CallB R s args own idx y_MO_few b_MO_few 2 (some .boolean) w_MO_few rm_MO_few 0 0 1 ∧ (Cond.static y_MO_few).before args s = true := ⟨callB_of 1 hts (gx t_638) rfl rfl rfl (hts _ (List.mem_cons_of_mem _ t_6)) (hts _ (List.mem_cons_of_mem _ hl)) (by decide +kernel) hR, hts _ (List.mem_cons_of_mem _ t_637)⟩
abbrev y_MO_digestOf : MethodName := ⟨"NibbleTrieModel", "digestOf", "(II)J"⟩
abbrev b_MO_digestOf : ByteArray := prog_7_method_45_code
abbrev w_MO_digestOf : List Cond := Cond.code y_MO_digestOf b_MO_digestOf 6 (some .long) :: tG
def rm_MO_digestOf : Room := { frames := 1, cells := 0, slots := 0, locals := 25 }
theorem cb_MO_digestOf {R : Room} {s : State} {args : Array Value} {own : String} {idx : Nat} {q : Cond} (hts : ∀ w ∈ q :: tG, w.before args s = true) (hl : Cond.methodLink own idx y_MO_digestOf ∈ tG) (hR : rm_MO_digestOf.frames + 1 ≤ R.frames ∧ 8 + (6 + 11) + rm_MO_digestOf.locals ≤ R.locals) : CallW R s args own "NibbleTrieModel" idx y_MO_digestOf b_MO_digestOf 6 (some .long) w_MO_digestOf rm_MO_digestOf 0 0 2 := ⟨callB_of 2 hts (gx t_646) rfl rfl rfl (hts _ (List.mem_cons_of_mem _ t_6)) (hts _ (List.mem_cons_of_mem _ hl)) (by decide +kernel) hR, hts _ (List.mem_cons_of_mem _ t_645), hts _ (List.mem_cons_of_mem _ ts_44)⟩
abbrev y_MO_refer : MethodName := ⟨"NibbleTrieModel", "refer", "(II)Z"⟩
abbrev b_MO_refer : ByteArray := prog_7_method_46_code
abbrev w_MO_refer : List Cond := Cond.code y_MO_refer b_MO_refer 3 (some .boolean) :: tG
def rm_MO_refer : Room := { frames := 0, cells := 0, slots := 0, locals := 0 }
theorem cb_MO_refer {R : Room} {s : State} {args : Array Value} {own : String} {idx : Nat} {q : Cond} (hts : ∀ w ∈ q :: tG, w.before args s = true) (hl : Cond.methodLink own idx y_MO_refer ∈ tG) (hR : rm_MO_refer.frames + 1 ≤ R.frames ∧ 8 + (3 + 11) + rm_MO_refer.locals ≤ R.locals) : CallW R s args own "NibbleTrieModel" idx y_MO_refer b_MO_refer 3 (some .boolean) w_MO_refer rm_MO_refer 0 0 2 := ⟨callB_of 2 hts (gx t_642) rfl rfl rfl (hts _ (List.mem_cons_of_mem _ t_6)) (hts _ (List.mem_cons_of_mem _ hl)) (by decide +kernel) hR, hts _ (List.mem_cons_of_mem _ t_641), hts _ (List.mem_cons_of_mem _ ts_43)⟩
abbrev y_MO_branchEnd : MethodName := ⟨"NibbleTrieModel", "branchEnd", "()I"⟩
abbrev b_MO_branchEnd : ByteArray := prog_7_method_47_code
abbrev w_MO_branchEnd : List Cond := Cond.code y_MO_branchEnd b_MO_branchEnd 3 (some .int) :: tG
def rm_MO_branchEnd : Room := { frames := 1, cells := 0, slots := 0, locals := 21 }
theorem cb_MO_branchEnd {R : Room} {s : State} {args : Array Value} {own : String} {idx : Nat} {q : Cond} (hts : ∀ w ∈ q :: tG, w.before args s = true) (hl : Cond.methodLink own idx y_MO_branchEnd ∈ tG) (hR : rm_MO_branchEnd.frames + 1 ≤ R.frames ∧ 8 + (3 + 11) + rm_MO_branchEnd.locals ≤ R.locals) : CallW R s args own "NibbleTrieModel" idx y_MO_branchEnd b_MO_branchEnd 3 (some .int) w_MO_branchEnd rm_MO_branchEnd 0 0 0 := ⟨callB_of 0 hts (gx t_660) rfl rfl rfl (hts _ (List.mem_cons_of_mem _ t_6)) (hts _ (List.mem_cons_of_mem _ hl)) (by decide +kernel) hR, hts _ (List.mem_cons_of_mem _ t_659), hts _ (List.mem_cons_of_mem _ ts_47)⟩
abbrev y_MO_throughBranch : MethodName := ⟨"NibbleTrieModel", "throughBranch", "()I"⟩
abbrev b_MO_throughBranch : ByteArray := prog_7_method_48_code
abbrev w_MO_throughBranch : List Cond := Cond.code y_MO_throughBranch b_MO_throughBranch 6 (some .int) :: tG
def rm_MO_throughBranch : Room := { frames := 2, cells := 0, slots := 0, locals := 50 }
theorem cb_MO_throughBranch {R : Room} {s : State} {args : Array Value} {own : String} {idx : Nat} {q : Cond} (hts : ∀ w ∈ q :: tG, w.before args s = true) (hl : Cond.methodLink own idx y_MO_throughBranch ∈ tG) (hR : rm_MO_throughBranch.frames + 1 ≤ R.frames ∧ 8 + (6 + 11) + rm_MO_throughBranch.locals ≤ R.locals) : CallW R s args own "NibbleTrieModel" idx y_MO_throughBranch b_MO_throughBranch 6 (some .int) w_MO_throughBranch rm_MO_throughBranch 0 0 0 := ⟨callB_of 0 hts (gx t_656) rfl rfl rfl (hts _ (List.mem_cons_of_mem _ t_6)) (hts _ (List.mem_cons_of_mem _ hl)) (by decide +kernel) hR, hts _ (List.mem_cons_of_mem _ t_655), hts _ (List.mem_cons_of_mem _ ts_46)⟩
abbrev y_MO_throughTwo : MethodName := ⟨"NibbleTrieModel", "throughTwo", "()I"⟩
abbrev b_MO_throughTwo : ByteArray := prog_7_method_49_code
abbrev w_MO_throughTwo : List Cond := Cond.code y_MO_throughTwo b_MO_throughTwo 2 (some .int) :: tG
def rm_MO_throughTwo : Room := { frames := 2, cells := 0, slots := 0, locals := 42 }
theorem cb_MO_throughTwo {R : Room} {s : State} {args : Array Value} {own : String} {idx : Nat} {q : Cond} (hts : ∀ w ∈ q :: tG, w.before args s = true) (hl : Cond.methodLink own idx y_MO_throughTwo ∈ tG) (hR : rm_MO_throughTwo.frames + 1 ≤ R.frames ∧ 8 + (2 + 11) + rm_MO_throughTwo.locals ≤ R.locals) : CallW R s args own "NibbleTrieModel" idx y_MO_throughTwo b_MO_throughTwo 2 (some .int) w_MO_throughTwo rm_MO_throughTwo 0 0 0 := ⟨callB_of 0 hts (gx t_650) rfl rfl rfl (hts _ (List.mem_cons_of_mem _ t_6)) (hts _ (List.mem_cons_of_mem _ hl)) (by decide +kernel) hR, hts _ (List.mem_cons_of_mem _ t_649), hts _ (List.mem_cons_of_mem _ ts_45)⟩
abbrev y_MO_verify : MethodName := ⟨"NibbleTrieModel", "verify", "(JII)Z"⟩
abbrev b_MO_verify : ByteArray := prog_7_method_50_code
abbrev w_MO_verify : List Cond := Cond.code y_MO_verify b_MO_verify 8 (some .boolean) :: tG
def rm_MO_verify : Room := { frames := 3, cells := 0, slots := 0, locals := 75 }
theorem cb_MO_verify {R : Room} {s : State} {args : Array Value} {own : String} {idx : Nat} {q : Cond} (hts : ∀ w ∈ q :: tG, w.before args s = true) (hl : Cond.methodLink own idx y_MO_verify ∈ tG) (hR : rm_MO_verify.frames + 1 ≤ R.frames ∧ 8 + (8 + 11) + rm_MO_verify.locals ≤ R.locals) : CallW R s args own "NibbleTrieModel" idx y_MO_verify b_MO_verify 8 (some .boolean) w_MO_verify rm_MO_verify 0 0 3 := ⟨callB_of 3 hts (gx t_635) rfl rfl rfl (hts _ (List.mem_cons_of_mem _ t_6)) (hts _ (List.mem_cons_of_mem _ hl)) (by decide +kernel) hR, hts _ (List.mem_cons_of_mem _ t_633), hts _ (List.mem_cons_of_mem _ t_634)⟩
abbrev y_PA_isNumber : MethodName := ⟨"NibbleTrie$Path", "isNumber", "(J)Z"⟩
abbrev b_PA_isNumber : ByteArray := prog_2_method_2_code
abbrev w_PA_isNumber : List Cond := Cond.code y_PA_isNumber b_PA_isNumber 2 (some .boolean) :: tG
def rm_PA_isNumber : Room := { frames := 0, cells := 0, slots := 0, locals := 0 }
theorem cb_PA_isNumber {R : Room} {s : State} {args : Array Value} {own : String} {idx : Nat} {q : Cond} (hts : ∀ w ∈ q :: tG, w.before args s = true) (hl : Cond.methodLink own idx y_PA_isNumber ∈ tG) (hR : rm_PA_isNumber.frames + 1 ≤ R.frames ∧ 8 + (2 + 11) + rm_PA_isNumber.locals ≤ R.locals) : CallB R s args own idx y_PA_isNumber b_PA_isNumber 2 (some .boolean) w_PA_isNumber rm_PA_isNumber 0 0 1 ∧ (Cond.static y_PA_isNumber).before args s = true := ⟨callB_of 1 hts (gx t_142) rfl rfl rfl (hts _ (List.mem_cons_of_mem _ t_7)) (hts _ (List.mem_cons_of_mem _ hl)) (by decide +kernel) hR, hts _ (List.mem_cons_of_mem _ t_141)⟩
abbrev y_PA_length : MethodName := ⟨"NibbleTrie$Path", "length", "(I)I"⟩
abbrev b_PA_length : ByteArray := prog_2_method_3_code
abbrev w_PA_length : List Cond := Cond.code y_PA_length b_PA_length 1 (some .int) :: tG
def rm_PA_length : Room := { frames := 0, cells := 0, slots := 0, locals := 0 }
theorem cb_PA_length {R : Room} {s : State} {args : Array Value} {own : String} {idx : Nat} {q : Cond} (hts : ∀ w ∈ q :: tG, w.before args s = true) (hl : Cond.methodLink own idx y_PA_length ∈ tG) (hR : rm_PA_length.frames + 1 ≤ R.frames ∧ 8 + (1 + 11) + rm_PA_length.locals ≤ R.locals) : CallB R s args own idx y_PA_length b_PA_length 1 (some .int) w_PA_length rm_PA_length 0 0 1 ∧ (Cond.static y_PA_length).before args s = true := ⟨callB_of 1 hts (gx t_168) rfl rfl rfl (hts _ (List.mem_cons_of_mem _ t_7)) (hts _ (List.mem_cons_of_mem _ hl)) (by decide +kernel) hR, hts _ (List.mem_cons_of_mem _ t_167)⟩
abbrev y_PA_nibble : MethodName := ⟨"NibbleTrie$Path", "nibble", "(II)I"⟩
abbrev b_PA_nibble : ByteArray := prog_2_method_4_code
abbrev w_PA_nibble : List Cond := Cond.code y_PA_nibble b_PA_nibble 2 (some .int) :: tG
def rm_PA_nibble : Room := { frames := 1, cells := 0, slots := 0, locals := 20 }
theorem cb_PA_nibble {R : Room} {s : State} {args : Array Value} {own : String} {idx : Nat} {q : Cond} (hts : ∀ w ∈ q :: tG, w.before args s = true) (hl : Cond.methodLink own idx y_PA_nibble ∈ tG) (hR : rm_PA_nibble.frames + 1 ≤ R.frames ∧ 8 + (2 + 11) + rm_PA_nibble.locals ≤ R.locals) : CallB R s args own idx y_PA_nibble b_PA_nibble 2 (some .int) w_PA_nibble rm_PA_nibble 0 0 2 ∧ (Cond.static y_PA_nibble).before args s = true := ⟨callB_of 2 hts (gx t_184) rfl rfl rfl (hts _ (List.mem_cons_of_mem _ t_7)) (hts _ (List.mem_cons_of_mem _ hl)) (by decide +kernel) hR, hts _ (List.mem_cons_of_mem _ t_183)⟩
abbrev y_PA_front : MethodName := ⟨"NibbleTrie$Path", "front", "(II)I"⟩
abbrev b_PA_front : ByteArray := prog_2_method_5_code
abbrev w_PA_front : List Cond := Cond.code y_PA_front b_PA_front 2 (some .int) :: tG
def rm_PA_front : Room := { frames := 1, cells := 0, slots := 0, locals := 20 }
theorem cb_PA_front {R : Room} {s : State} {args : Array Value} {own : String} {idx : Nat} {q : Cond} (hts : ∀ w ∈ q :: tG, w.before args s = true) (hl : Cond.methodLink own idx y_PA_front ∈ tG) (hR : rm_PA_front.frames + 1 ≤ R.frames ∧ 8 + (2 + 11) + rm_PA_front.locals ≤ R.locals) : CallB R s args own idx y_PA_front b_PA_front 2 (some .int) w_PA_front rm_PA_front 0 0 2 ∧ (Cond.static y_PA_front).before args s = true := ⟨callB_of 2 hts (gx t_250) rfl rfl rfl (hts _ (List.mem_cons_of_mem _ t_7)) (hts _ (List.mem_cons_of_mem _ hl)) (by decide +kernel) hR, hts _ (List.mem_cons_of_mem _ t_249)⟩
abbrev y_PA_without : MethodName := ⟨"NibbleTrie$Path", "without", "(II)I"⟩
abbrev b_PA_without : ByteArray := prog_2_method_6_code
abbrev w_PA_without : List Cond := Cond.code y_PA_without b_PA_without 3 (some .int) :: tG
def rm_PA_without : Room := { frames := 1, cells := 0, slots := 0, locals := 20 }
theorem cb_PA_without {R : Room} {s : State} {args : Array Value} {own : String} {idx : Nat} {q : Cond} (hts : ∀ w ∈ q :: tG, w.before args s = true) (hl : Cond.methodLink own idx y_PA_without ∈ tG) (hR : rm_PA_without.frames + 1 ≤ R.frames ∧ 8 + (3 + 11) + rm_PA_without.locals ≤ R.locals) : CallB R s args own idx y_PA_without b_PA_without 3 (some .int) w_PA_without rm_PA_without 0 0 2 ∧ (Cond.static y_PA_without).before args s = true := ⟨callB_of 2 hts (gx t_235) rfl rfl rfl (hts _ (List.mem_cons_of_mem _ t_7)) (hts _ (List.mem_cons_of_mem _ hl)) (by decide +kernel) hR, hts _ (List.mem_cons_of_mem _ t_234)⟩
abbrev y_PA_begins : MethodName := ⟨"NibbleTrie$Path", "begins", "(II)Z"⟩
abbrev b_PA_begins : ByteArray := prog_2_method_7_code
abbrev w_PA_begins : List Cond := Cond.code y_PA_begins b_PA_begins 3 (some .boolean) :: tG
def rm_PA_begins : Room := { frames := 2, cells := 0, slots := 0, locals := 41 }
theorem cb_PA_begins {R : Room} {s : State} {args : Array Value} {own : String} {idx : Nat} {q : Cond} (hts : ∀ w ∈ q :: tG, w.before args s = true) (hl : Cond.methodLink own idx y_PA_begins ∈ tG) (hR : rm_PA_begins.frames + 1 ≤ R.frames ∧ 8 + (3 + 11) + rm_PA_begins.locals ≤ R.locals) : CallB R s args own idx y_PA_begins b_PA_begins 3 (some .boolean) w_PA_begins rm_PA_begins 0 0 2 ∧ (Cond.static y_PA_begins).before args s = true := ⟨callB_of 2 hts (gx t_349) rfl rfl rfl (hts _ (List.mem_cons_of_mem _ t_7)) (hts _ (List.mem_cons_of_mem _ hl)) (by decide +kernel) hR, hts _ (List.mem_cons_of_mem _ t_348)⟩
abbrev y_PA_commonLength : MethodName := ⟨"NibbleTrie$Path", "commonLength", "(II)I"⟩
abbrev b_PA_commonLength : ByteArray := prog_2_method_8_code
abbrev w_PA_commonLength : List Cond := Cond.code y_PA_commonLength b_PA_commonLength 4 (some .int) :: tG
def rm_PA_commonLength : Room := { frames := 2, cells := 0, slots := 0, locals := 41 }
theorem cb_PA_commonLength {R : Room} {s : State} {args : Array Value} {own : String} {idx : Nat} {q : Cond} (hts : ∀ w ∈ q :: tG, w.before args s = true) (hl : Cond.methodLink own idx y_PA_commonLength ∈ tG) (hR : rm_PA_commonLength.frames + 1 ≤ R.frames ∧ 8 + (4 + 11) + rm_PA_commonLength.locals ≤ R.locals) : CallB R s args own idx y_PA_commonLength b_PA_commonLength 4 (some .int) w_PA_commonLength rm_PA_commonLength 0 0 2 ∧ (Cond.static y_PA_commonLength).before args s = true := ⟨callB_of 2 hts (gx t_180) rfl rfl rfl (hts _ (List.mem_cons_of_mem _ t_7)) (hts _ (List.mem_cons_of_mem _ hl)) (by decide +kernel) hR, hts _ (List.mem_cons_of_mem _ t_179)⟩
abbrev y_PA_order : MethodName := ⟨"NibbleTrie$Path", "order", "(I)I"⟩
abbrev b_PA_order : ByteArray := prog_2_method_9_code
abbrev w_PA_order : List Cond := Cond.code y_PA_order b_PA_order 2 (some .int) :: tG
def rm_PA_order : Room := { frames := 1, cells := 0, slots := 0, locals := 20 }
theorem cb_PA_order {R : Room} {s : State} {args : Array Value} {own : String} {idx : Nat} {q : Cond} (hts : ∀ w ∈ q :: tG, w.before args s = true) (hl : Cond.methodLink own idx y_PA_order ∈ tG) (hR : rm_PA_order.frames + 1 ≤ R.frames ∧ 8 + (2 + 11) + rm_PA_order.locals ≤ R.locals) : CallB R s args own idx y_PA_order b_PA_order 2 (some .int) w_PA_order rm_PA_order 0 0 1 ∧ (Cond.static y_PA_order).before args s = true := ⟨callB_of 1 hts (gx t_165) rfl rfl rfl (hts _ (List.mem_cons_of_mem _ t_7)) (hts _ (List.mem_cons_of_mem _ hl)) (by decide +kernel) hR, hts _ (List.mem_cons_of_mem _ t_164)⟩
abbrev y_PM_rowOf : MethodName := ⟨"NibbleTrie$PathMap", "rowOf", "(I)I"⟩
abbrev b_PM_rowOf : ByteArray := prog_3_method_2_code
abbrev w_PM_rowOf : List Cond := Cond.code y_PM_rowOf b_PM_rowOf 3 (some .int) :: tG
def rm_PM_rowOf : Room := { frames := 0, cells := 0, slots := 0, locals := 0 }
theorem cb_PM_rowOf {R : Room} {s : State} {args : Array Value} {own : String} {idx : Nat} {q : Cond} (hts : ∀ w ∈ q :: tG, w.before args s = true) (hl : Cond.methodLink own idx y_PM_rowOf ∈ tG) (hR : rm_PM_rowOf.frames + 1 ≤ R.frames ∧ 8 + (3 + 11) + rm_PM_rowOf.locals ≤ R.locals) : CallW R s args own "NibbleTrie$PathMap" idx y_PM_rowOf b_PM_rowOf 3 (some .int) w_PM_rowOf rm_PM_rowOf 0 0 1 := ⟨callB_of 1 hts (gx t_158) rfl rfl rfl (hts _ (List.mem_cons_of_mem _ t_3)) (hts _ (List.mem_cons_of_mem _ hl)) (by decide +kernel) hR, hts _ (List.mem_cons_of_mem _ t_156), hts _ (List.mem_cons_of_mem _ t_157)⟩
abbrev y_PM_valueOf : MethodName := ⟨"NibbleTrie$PathMap", "valueOf", "(I)I"⟩
abbrev b_PM_valueOf : ByteArray := prog_3_method_3_code
abbrev w_PM_valueOf : List Cond := Cond.code y_PM_valueOf b_PM_valueOf 3 (some .int) :: tG
def rm_PM_valueOf : Room := { frames := 1, cells := 0, slots := 0, locals := 22 }
theorem cb_PM_valueOf {R : Room} {s : State} {args : Array Value} {own : String} {idx : Nat} {q : Cond} (hts : ∀ w ∈ q :: tG, w.before args s = true) (hl : Cond.methodLink own idx y_PM_valueOf ∈ tG) (hR : rm_PM_valueOf.frames + 1 ≤ R.frames ∧ 8 + (3 + 11) + rm_PM_valueOf.locals ≤ R.locals) : CallW R s args own "NibbleTrie$PathMap" idx y_PM_valueOf b_PM_valueOf 3 (some .int) w_PM_valueOf rm_PM_valueOf 0 0 1 := ⟨callB_of 1 hts (gx t_214) rfl rfl rfl (hts _ (List.mem_cons_of_mem _ t_3)) (hts _ (List.mem_cons_of_mem _ hl)) (by decide +kernel) hR, hts _ (List.mem_cons_of_mem _ t_212), hts _ (List.mem_cons_of_mem _ t_213)⟩
abbrev y_PM_insert : MethodName := ⟨"NibbleTrie$PathMap", "insert", "(II)V"⟩
abbrev b_PM_insert : ByteArray := prog_3_method_4_code
abbrev w_PM_insert : List Cond := Cond.code y_PM_insert b_PM_insert 4 none :: tG
def rm_PM_insert : Room := { frames := 2, cells := 0, slots := 0, locals := 41 }
theorem cb_PM_insert {R : Room} {s : State} {args : Array Value} {own : String} {idx : Nat} {q : Cond} (hts : ∀ w ∈ q :: tG, w.before args s = true) (hl : Cond.methodLink own idx y_PM_insert ∈ tG) (hR : rm_PM_insert.frames + 1 ≤ R.frames ∧ 8 + (4 + 11) + rm_PM_insert.locals ≤ R.locals) : CallW R s args own "NibbleTrie$PathMap" idx y_PM_insert b_PM_insert 4 none w_PM_insert rm_PM_insert 0 0 2 := ⟨callB_of 2 hts (gx t_162) rfl rfl rfl (hts _ (List.mem_cons_of_mem _ t_3)) (hts _ (List.mem_cons_of_mem _ hl)) (by decide +kernel) hR, hts _ (List.mem_cons_of_mem _ t_160), hts _ (List.mem_cons_of_mem _ t_161)⟩
abbrev y_PM_remove : MethodName := ⟨"NibbleTrie$PathMap", "remove", "(I)V"⟩
abbrev b_PM_remove : ByteArray := prog_3_method_5_code
abbrev w_PM_remove : List Cond := Cond.code y_PM_remove b_PM_remove 3 none :: tG
def rm_PM_remove : Room := { frames := 0, cells := 0, slots := 0, locals := 0 }
theorem cb_PM_remove {R : Room} {s : State} {args : Array Value} {own : String} {idx : Nat} {q : Cond} (hts : ∀ w ∈ q :: tG, w.before args s = true) (hl : Cond.methodLink own idx y_PM_remove ∈ tG) (hR : rm_PM_remove.frames + 1 ≤ R.frames ∧ 8 + (3 + 11) + rm_PM_remove.locals ≤ R.locals) : CallW R s args own "NibbleTrie$PathMap" idx y_PM_remove b_PM_remove 3 none w_PM_remove rm_PM_remove 0 0 1 := ⟨callB_of 1 hts (gx t_206) rfl rfl rfl (hts _ (List.mem_cons_of_mem _ t_3)) (hts _ (List.mem_cons_of_mem _ hl)) (by decide +kernel) hR, hts _ (List.mem_cons_of_mem _ t_204), hts _ (List.mem_cons_of_mem _ t_205)⟩
abbrev y_PM_copy : MethodName := ⟨"NibbleTrie$PathMap", "copy", "(LNibbleTrie$PathMap;)V"⟩
abbrev b_PM_copy : ByteArray := prog_3_method_6_code
abbrev w_PM_copy : List Cond := Cond.code y_PM_copy b_PM_copy 2 none :: tG
def rm_PM_copy : Room := { frames := 1, cells := 0, slots := 0, locals := 26 }
theorem cb_PM_copy {R : Room} {s : State} {args : Array Value} {own : String} {idx : Nat} {q : Cond} (hts : ∀ w ∈ q :: tG, w.before args s = true) (hl : Cond.methodLink own idx y_PM_copy ∈ tG) (hR : rm_PM_copy.frames + 1 ≤ R.frames ∧ 8 + (2 + 11) + rm_PM_copy.locals ≤ R.locals) : CallW R s args own "NibbleTrie$PathMap" idx y_PM_copy b_PM_copy 2 none w_PM_copy rm_PM_copy 0 0 1 := ⟨callB_of 1 hts (gx t_286) rfl rfl rfl (hts _ (List.mem_cons_of_mem _ t_3)) (hts _ (List.mem_cons_of_mem _ hl)) (by decide +kernel) hR, hts _ (List.mem_cons_of_mem _ t_284), hts _ (List.mem_cons_of_mem _ t_285)⟩
abbrev y_PM_endsAt : MethodName := ⟨"NibbleTrie$PathMap", "endsAt", "(II)Z"⟩
abbrev b_PM_endsAt : ByteArray := prog_3_method_7_code
abbrev w_PM_endsAt : List Cond := Cond.code y_PM_endsAt b_PM_endsAt 3 (some .boolean) :: tG
def rm_PM_endsAt : Room := { frames := 1, cells := 0, slots := 0, locals := 20 }
theorem cb_PM_endsAt {R : Room} {s : State} {args : Array Value} {own : String} {idx : Nat} {q : Cond} (hts : ∀ w ∈ q :: tG, w.before args s = true) (hl : Cond.methodLink own idx y_PM_endsAt ∈ tG) (hR : rm_PM_endsAt.frames + 1 ≤ R.frames ∧ 8 + (3 + 11) + rm_PM_endsAt.locals ≤ R.locals) : CallW R s args own "NibbleTrie$PathMap" idx y_PM_endsAt b_PM_endsAt 3 (some .boolean) w_PM_endsAt rm_PM_endsAt 0 0 2 := ⟨callB_of 2 hts (gx t_196) rfl rfl rfl (hts _ (List.mem_cons_of_mem _ t_3)) (hts _ (List.mem_cons_of_mem _ hl)) (by decide +kernel) hR, hts _ (List.mem_cons_of_mem _ t_194), hts _ (List.mem_cons_of_mem _ t_195)⟩
abbrev y_PM_endOfChild : MethodName := ⟨"NibbleTrie$PathMap", "endOfChild", "(IIII)I"⟩
abbrev b_PM_endOfChild : ByteArray := prog_3_method_8_code
abbrev w_PM_endOfChild : List Cond := Cond.code y_PM_endOfChild b_PM_endOfChild 6 (some .int) :: tG
def rm_PM_endOfChild : Room := { frames := 2, cells := 0, slots := 0, locals := 41 }
theorem cb_PM_endOfChild {R : Room} {s : State} {args : Array Value} {own : String} {idx : Nat} {q : Cond} (hts : ∀ w ∈ q :: tG, w.before args s = true) (hl : Cond.methodLink own idx y_PM_endOfChild ∈ tG) (hR : rm_PM_endOfChild.frames + 1 ≤ R.frames ∧ 8 + (6 + 11) + rm_PM_endOfChild.locals ≤ R.locals) : CallW R s args own "NibbleTrie$PathMap" idx y_PM_endOfChild b_PM_endOfChild 6 (some .int) w_PM_endOfChild rm_PM_endOfChild 0 0 4 := ⟨callB_of 4 hts (gx t_201) rfl rfl rfl (hts _ (List.mem_cons_of_mem _ t_3)) (hts _ (List.mem_cons_of_mem _ hl)) (by decide +kernel) hR, hts _ (List.mem_cons_of_mem _ t_199), hts _ (List.mem_cons_of_mem _ t_200)⟩
abbrev y_PF_has : MethodName := ⟨"NibbleTrie$Proof", "has", "(I)Z"⟩
abbrev b_PF_has : ByteArray := prog_4_method_2_code
abbrev w_PF_has : List Cond := Cond.code y_PF_has b_PF_has 2 (some .boolean) :: tG
def rm_PF_has : Room := { frames := 0, cells := 0, slots := 0, locals := 0 }
theorem cb_PF_has {R : Room} {s : State} {args : Array Value} {own : String} {idx : Nat} {q : Cond} (hts : ∀ w ∈ q :: tG, w.before args s = true) (hl : Cond.methodLink own idx y_PF_has ∈ tG) (hR : rm_PF_has.frames + 1 ≤ R.frames ∧ 8 + (2 + 11) + rm_PF_has.locals ≤ R.locals) : CallW R s args own "NibbleTrie$Proof" idx y_PF_has b_PF_has 2 (some .boolean) w_PF_has rm_PF_has 0 0 1 := ⟨callB_of 1 hts (gx t_358) rfl rfl rfl (hts _ (List.mem_cons_of_mem _ t_4)) (hts _ (List.mem_cons_of_mem _ hl)) (by decide +kernel) hR, hts _ (List.mem_cons_of_mem _ t_356), hts _ (List.mem_cons_of_mem _ t_357)⟩
abbrev y_PF_shows : MethodName := ⟨"NibbleTrie$Proof", "shows", "(JIJ)Z"⟩
abbrev b_PF_shows : ByteArray := prog_4_method_3_code
abbrev w_PF_shows : List Cond := Cond.code y_PF_shows b_PF_shows 7 (some .boolean) :: tG
def rm_PF_shows : Room := { frames := 4, cells := 0, slots := 0, locals := 91 }
theorem cb_PF_shows {R : Room} {s : State} {args : Array Value} {own : String} {idx : Nat} {q : Cond} (hts : ∀ w ∈ q :: tG, w.before args s = true) (hl : Cond.methodLink own idx y_PF_shows ∈ tG) (hR : rm_PF_shows.frames + 1 ≤ R.frames ∧ 8 + (7 + 11) + rm_PF_shows.locals ≤ R.locals) : CallW R s args own "NibbleTrie$Proof" idx y_PF_shows b_PF_shows 7 (some .boolean) w_PF_shows rm_PF_shows 0 0 3 := ⟨callB_of 3 hts (gx t_374) rfl rfl rfl (hts _ (List.mem_cons_of_mem _ t_4)) (hts _ (List.mem_cons_of_mem _ hl)) (by decide +kernel) hR, hts _ (List.mem_cons_of_mem _ t_372), hts _ (List.mem_cons_of_mem _ t_373)⟩
abbrev y_PF_end : MethodName := ⟨"NibbleTrie$Proof", "end", "(J)V"⟩
abbrev b_PF_end : ByteArray := prog_4_method_4_code
abbrev w_PF_end : List Cond := Cond.code y_PF_end b_PF_end 3 none :: tG
def rm_PF_end : Room := { frames := 0, cells := 0, slots := 0, locals := 0 }
theorem cb_PF_end {R : Room} {s : State} {args : Array Value} {own : String} {idx : Nat} {q : Cond} (hts : ∀ w ∈ q :: tG, w.before args s = true) (hl : Cond.methodLink own idx y_PF_end ∈ tG) (hR : rm_PF_end.frames + 1 ≤ R.frames ∧ 8 + (3 + 11) + rm_PF_end.locals ≤ R.locals) : CallW R s args own "NibbleTrie$Proof" idx y_PF_end b_PF_end 3 none w_PF_end rm_PF_end 0 0 1 := ⟨callB_of 1 hts (gx t_389) rfl rfl rfl (hts _ (List.mem_cons_of_mem _ t_4)) (hts _ (List.mem_cons_of_mem _ hl)) (by decide +kernel) hR, hts _ (List.mem_cons_of_mem _ t_388), hts _ (List.mem_cons_of_mem _ ts_18)⟩
abbrev y_PF_hasReference : MethodName := ⟨"NibbleTrie$Proof", "hasReference", "(I)Z"⟩
abbrev b_PF_hasReference : ByteArray := prog_4_method_5_code
abbrev w_PF_hasReference : List Cond := Cond.code y_PF_hasReference b_PF_hasReference 2 (some .boolean) :: tG
def rm_PF_hasReference : Room := { frames := 1, cells := 0, slots := 0, locals := 21 }
theorem cb_PF_hasReference {R : Room} {s : State} {args : Array Value} {own : String} {idx : Nat} {q : Cond} (hts : ∀ w ∈ q :: tG, w.before args s = true) (hl : Cond.methodLink own idx y_PF_hasReference ∈ tG) (hR : rm_PF_hasReference.frames + 1 ≤ R.frames ∧ 8 + (2 + 11) + rm_PF_hasReference.locals ≤ R.locals) : CallW R s args own "NibbleTrie$Proof" idx y_PF_hasReference b_PF_hasReference 2 (some .boolean) w_PF_hasReference rm_PF_hasReference 0 0 1 := ⟨callB_of 1 hts (gx t_382) rfl rfl rfl (hts _ (List.mem_cons_of_mem _ t_4)) (hts _ (List.mem_cons_of_mem _ hl)) (by decide +kernel) hR, hts _ (List.mem_cons_of_mem _ t_381), hts _ (List.mem_cons_of_mem _ ts_17)⟩
abbrev y_PF_takeTopReference : MethodName := ⟨"NibbleTrie$Proof", "takeTopReference", "(J)V"⟩
abbrev b_PF_takeTopReference : ByteArray := prog_4_method_6_code
abbrev w_PF_takeTopReference : List Cond := Cond.code y_PF_takeTopReference b_PF_takeTopReference 3 none :: tG
def rm_PF_takeTopReference : Room := { frames := 2, cells := 0, slots := 0, locals := 42 }
theorem cb_PF_takeTopReference {R : Room} {s : State} {args : Array Value} {own : String} {idx : Nat} {q : Cond} (hts : ∀ w ∈ q :: tG, w.before args s = true) (hl : Cond.methodLink own idx y_PF_takeTopReference ∈ tG) (hR : rm_PF_takeTopReference.frames + 1 ≤ R.frames ∧ 8 + (3 + 11) + rm_PF_takeTopReference.locals ≤ R.locals) : CallW R s args own "NibbleTrie$Proof" idx y_PF_takeTopReference b_PF_takeTopReference 3 none w_PF_takeTopReference rm_PF_takeTopReference 0 0 1 := ⟨callB_of 1 hts (gx t_378) rfl rfl rfl (hts _ (List.mem_cons_of_mem _ t_4)) (hts _ (List.mem_cons_of_mem _ hl)) (by decide +kernel) hR, hts _ (List.mem_cons_of_mem _ t_377), hts _ (List.mem_cons_of_mem _ ts_16)⟩
abbrev y_PF_followPair : MethodName := ⟨"NibbleTrie$Proof", "followPair", "(JJ)V"⟩
abbrev b_PF_followPair : ByteArray := prog_4_method_7_code
abbrev w_PF_followPair : List Cond := Cond.code y_PF_followPair b_PF_followPair 9 none :: tG
def rm_PF_followPair : Room := { frames := 3, cells := 0, slots := 0, locals := 63 }
theorem cb_PF_followPair {R : Room} {s : State} {args : Array Value} {own : String} {idx : Nat} {q : Cond} (hts : ∀ w ∈ q :: tG, w.before args s = true) (hl : Cond.methodLink own idx y_PF_followPair ∈ tG) (hR : rm_PF_followPair.frames + 1 ≤ R.frames ∧ 8 + (9 + 11) + rm_PF_followPair.locals ≤ R.locals) : CallW R s args own "NibbleTrie$Proof" idx y_PF_followPair b_PF_followPair 9 none w_PF_followPair rm_PF_followPair 0 0 2 := ⟨callB_of 2 hts (gx t_399) rfl rfl rfl (hts _ (List.mem_cons_of_mem _ t_4)) (hts _ (List.mem_cons_of_mem _ hl)) (by decide +kernel) hR, hts _ (List.mem_cons_of_mem _ t_398), hts _ (List.mem_cons_of_mem _ ts_20)⟩
abbrev y_PF_followDigest : MethodName := ⟨"NibbleTrie$Proof", "followDigest", "(J)V"⟩
abbrev b_PF_followDigest : ByteArray := prog_4_method_8_code
abbrev w_PF_followDigest : List Cond := Cond.code y_PF_followDigest b_PF_followDigest 7 none :: tG
def rm_PF_followDigest : Room := { frames := 2, cells := 0, slots := 0, locals := 42 }
theorem cb_PF_followDigest {R : Room} {s : State} {args : Array Value} {own : String} {idx : Nat} {q : Cond} (hts : ∀ w ∈ q :: tG, w.before args s = true) (hl : Cond.methodLink own idx y_PF_followDigest ∈ tG) (hR : rm_PF_followDigest.frames + 1 ≤ R.frames ∧ 8 + (7 + 11) + rm_PF_followDigest.locals ≤ R.locals) : CallW R s args own "NibbleTrie$Proof" idx y_PF_followDigest b_PF_followDigest 7 none w_PF_followDigest rm_PF_followDigest 0 0 1 := ⟨callB_of 1 hts (gx t_393) rfl rfl rfl (hts _ (List.mem_cons_of_mem _ t_4)) (hts _ (List.mem_cons_of_mem _ hl)) (by decide +kernel) hR, hts _ (List.mem_cons_of_mem _ t_392), hts _ (List.mem_cons_of_mem _ ts_19)⟩
abbrev y_TR_change : MethodName := ⟨"NibbleTrie$Trie", "change", "(II)I"⟩
abbrev b_TR_change : ByteArray := prog_5_method_2_code
abbrev w_TR_change : List Cond := Cond.code y_TR_change b_TR_change 5 (some .int) :: tG
def rm_TR_change : Room := { frames := 30, cells := 0, slots := 0, locals := 975 }
theorem cb_TR_change {R : Room} {s : State} {args : Array Value} {own : String} {idx : Nat} {q : Cond} (hts : ∀ w ∈ q :: tG, w.before args s = true) (hl : Cond.methodLink own idx y_TR_change ∈ tG) (hR : rm_TR_change.frames + 1 ≤ R.frames ∧ 8 + (5 + 11) + rm_TR_change.locals ≤ R.locals) : CallW R s args own "NibbleTrie$Trie" idx y_TR_change b_TR_change 5 (some .int) w_TR_change rm_TR_change 0 0 2 := ⟨callB_of 2 hts (gx t_154) rfl rfl rfl (hts _ (List.mem_cons_of_mem _ t_2)) (hts _ (List.mem_cons_of_mem _ hl)) (by decide +kernel) hR, hts _ (List.mem_cons_of_mem _ t_152), hts _ (List.mem_cons_of_mem _ t_153)⟩
abbrev y_TR_becomeLike : MethodName := ⟨"NibbleTrie$Trie", "becomeLike", "(LNibbleTrie$Trie;)V"⟩
abbrev b_TR_becomeLike : ByteArray := prog_5_method_3_code
abbrev w_TR_becomeLike : List Cond := Cond.code y_TR_becomeLike b_TR_becomeLike 2 none :: tG
def rm_TR_becomeLike : Room := { frames := 2, cells := 0, slots := 0, locals := 47 }
theorem cb_TR_becomeLike {R : Room} {s : State} {args : Array Value} {own : String} {idx : Nat} {q : Cond} (hts : ∀ w ∈ q :: tG, w.before args s = true) (hl : Cond.methodLink own idx y_TR_becomeLike ∈ tG) (hR : rm_TR_becomeLike.frames + 1 ≤ R.frames ∧ 8 + (2 + 11) + rm_TR_becomeLike.locals ≤ R.locals) : CallW R s args own "NibbleTrie$Trie" idx y_TR_becomeLike b_TR_becomeLike 2 none w_TR_becomeLike rm_TR_becomeLike 0 0 1 := ⟨callB_of 1 hts (gx t_282) rfl rfl rfl (hts _ (List.mem_cons_of_mem _ t_2)) (hts _ (List.mem_cons_of_mem _ hl)) (by decide +kernel) hR, hts _ (List.mem_cons_of_mem _ t_280), hts _ (List.mem_cons_of_mem _ t_281)⟩
abbrev y_TR_list : MethodName := ⟨"NibbleTrie$Trie", "list", "()V"⟩
abbrev b_TR_list : ByteArray := prog_5_method_4_code
abbrev w_TR_list : List Cond := Cond.code y_TR_list b_TR_list 1 none :: tG
def rm_TR_list : Room := { frames := 29, cells := 0, slots := 0, locals := 955 }
theorem cb_TR_list {R : Room} {s : State} {args : Array Value} {own : String} {idx : Nat} {q : Cond} (hts : ∀ w ∈ q :: tG, w.before args s = true) (hl : Cond.methodLink own idx y_TR_list ∈ tG) (hR : rm_TR_list.frames + 1 ≤ R.frames ∧ 8 + (1 + 11) + rm_TR_list.locals ≤ R.locals) : CallW R s args own "NibbleTrie$Trie" idx y_TR_list b_TR_list 1 none w_TR_list rm_TR_list 0 0 0 := ⟨callB_of 0 hts (gx t_173) rfl rfl rfl (hts _ (List.mem_cons_of_mem _ t_2)) (hts _ (List.mem_cons_of_mem _ hl)) (by decide +kernel) hR, hts _ (List.mem_cons_of_mem _ t_172), hts _ (List.mem_cons_of_mem _ ts_0)⟩
abbrev y_TR_listPart : MethodName := ⟨"NibbleTrie$Trie", "listPart", "(IIII)V"⟩
abbrev b_TR_listPart : ByteArray := prog_5_method_5_code
abbrev w_TR_listPart : List Cond := Cond.code y_TR_listPart b_TR_listPart 6 none :: tG
def rm_TR_listPart (d : Nat) : Room := { frames := 2 * d + 10, cells := 0, slots := 0, locals := 70 * d + 300 }
theorem cb_TR_listPart {R : Room} {s : State} {args : Array Value} {own : String} {idx : Nat} {q : Cond} {d : Nat} (hts : ∀ w ∈ q :: tG, w.before args s = true) (hl : Cond.methodLink own idx y_TR_listPart ∈ tG) (hR : (rm_TR_listPart d).frames + 1 ≤ R.frames ∧ 8 + (6 + 11) + (rm_TR_listPart d).locals ≤ R.locals) : CallW R s args own "NibbleTrie$Trie" idx y_TR_listPart b_TR_listPart 6 none w_TR_listPart (rm_TR_listPart d) 0 0 4 := ⟨callB_of 4 hts (gx t_177) rfl rfl rfl (hts _ (List.mem_cons_of_mem _ t_2)) (hts _ (List.mem_cons_of_mem _ hl)) (by decide +kernel) hR, hts _ (List.mem_cons_of_mem _ t_176), hts _ (List.mem_cons_of_mem _ ts_1)⟩
abbrev y_TR_listBranch : MethodName := ⟨"NibbleTrie$Trie", "listBranch", "(IIII)V"⟩
abbrev b_TR_listBranch : ByteArray := prog_5_method_6_code
abbrev w_TR_listBranch : List Cond := Cond.code y_TR_listBranch b_TR_listBranch 9 none :: tG
def rm_TR_listBranch (d : Nat) : Room := { frames := 2 * d + 11, cells := 0, slots := 0, locals := 70 * d + 335 }
theorem cb_TR_listBranch {R : Room} {s : State} {args : Array Value} {own : String} {idx : Nat} {q : Cond} {d : Nat} (hts : ∀ w ∈ q :: tG, w.before args s = true) (hl : Cond.methodLink own idx y_TR_listBranch ∈ tG) (hR : (rm_TR_listBranch d).frames + 1 ≤ R.frames ∧ 8 + (9 + 11) + (rm_TR_listBranch d).locals ≤ R.locals) : CallW R s args own "NibbleTrie$Trie" idx y_TR_listBranch b_TR_listBranch 9 none w_TR_listBranch (rm_TR_listBranch d) 0 0 4 := ⟨callB_of 4 hts (gx t_188) rfl rfl rfl (hts _ (List.mem_cons_of_mem _ t_2)) (hts _ (List.mem_cons_of_mem _ hl)) (by decide +kernel) hR, hts _ (List.mem_cons_of_mem _ t_187), hts _ (List.mem_cons_of_mem _ ts_2)⟩
abbrev y_TR_firstChildRow : MethodName := ⟨"NibbleTrie$Trie", "firstChildRow", "(II)I"⟩
abbrev b_TR_firstChildRow : ByteArray := prog_5_method_7_code
abbrev w_TR_firstChildRow : List Cond := Cond.code y_TR_firstChildRow b_TR_firstChildRow 3 (some .int) :: tG
def rm_TR_firstChildRow : Room := { frames := 2, cells := 0, slots := 0, locals := 42 }
theorem cb_TR_firstChildRow {R : Room} {s : State} {args : Array Value} {own : String} {idx : Nat} {q : Cond} (hts : ∀ w ∈ q :: tG, w.before args s = true) (hl : Cond.methodLink own idx y_TR_firstChildRow ∈ tG) (hR : rm_TR_firstChildRow.frames + 1 ≤ R.frames ∧ 8 + (3 + 11) + rm_TR_firstChildRow.locals ≤ R.locals) : CallW R s args own "NibbleTrie$Trie" idx y_TR_firstChildRow b_TR_firstChildRow 3 (some .int) w_TR_firstChildRow rm_TR_firstChildRow 0 0 2 := ⟨callB_of 2 hts (gx t_192) rfl rfl rfl (hts _ (List.mem_cons_of_mem _ t_2)) (hts _ (List.mem_cons_of_mem _ hl)) (by decide +kernel) hR, hts _ (List.mem_cons_of_mem _ t_191), hts _ (List.mem_cons_of_mem _ ts_3)⟩
abbrev y_TR_rootNumber : MethodName := ⟨"NibbleTrie$Trie", "rootNumber", "()J"⟩
abbrev b_TR_rootNumber : ByteArray := prog_5_method_8_code
abbrev w_TR_rootNumber : List Cond := Cond.code y_TR_rootNumber b_TR_rootNumber 2 (some .long) :: tG
def rm_TR_rootNumber : Room := { frames := 38, cells := 0, slots := 0, locals := 1228 }
theorem cb_TR_rootNumber {R : Room} {s : State} {args : Array Value} {own : String} {idx : Nat} {q : Cond} (hts : ∀ w ∈ q :: tG, w.before args s = true) (hl : Cond.methodLink own idx y_TR_rootNumber ∈ tG) (hR : rm_TR_rootNumber.frames + 1 ≤ R.frames ∧ 8 + (2 + 11) + rm_TR_rootNumber.locals ≤ R.locals) : CallW R s args own "NibbleTrie$Trie" idx y_TR_rootNumber b_TR_rootNumber 2 (some .long) w_TR_rootNumber rm_TR_rootNumber 0 0 0 := ⟨callB_of 0 hts (gx t_227) rfl rfl rfl (hts _ (List.mem_cons_of_mem _ t_2)) (hts _ (List.mem_cons_of_mem _ hl)) (by decide +kernel) hR, hts _ (List.mem_cons_of_mem _ t_225), hts _ (List.mem_cons_of_mem _ t_226)⟩
abbrev y_TR_digestOf : MethodName := ⟨"NibbleTrie$Trie", "digestOf", "(I)J"⟩
abbrev b_TR_digestOf : ByteArray := prog_5_method_9_code
abbrev w_TR_digestOf : List Cond := Cond.code y_TR_digestOf b_TR_digestOf 2 (some .long) :: tG
def rm_TR_digestOf : Room := { frames := 40, cells := 0, slots := 0, locals := 1295 }
theorem cb_TR_digestOf {R : Room} {s : State} {args : Array Value} {own : String} {idx : Nat} {q : Cond} (hts : ∀ w ∈ q :: tG, w.before args s = true) (hl : Cond.methodLink own idx y_TR_digestOf ∈ tG) (hR : rm_TR_digestOf.frames + 1 ≤ R.frames ∧ 8 + (2 + 11) + rm_TR_digestOf.locals ≤ R.locals) : CallW R s args own "NibbleTrie$Trie" idx y_TR_digestOf b_TR_digestOf 2 (some .long) w_TR_digestOf rm_TR_digestOf 0 0 1 := ⟨callB_of 1 hts (gx t_334) rfl rfl rfl (hts _ (List.mem_cons_of_mem _ t_2)) (hts _ (List.mem_cons_of_mem _ hl)) (by decide +kernel) hR, hts _ (List.mem_cons_of_mem _ t_332), hts _ (List.mem_cons_of_mem _ t_333)⟩
abbrev y_TR_branchDigest : MethodName := ⟨"NibbleTrie$Trie", "branchDigest", "(III)J"⟩
abbrev b_TR_branchDigest : ByteArray := prog_5_method_10_code
abbrev w_TR_branchDigest : List Cond := Cond.code y_TR_branchDigest b_TR_branchDigest 6 (some .long) :: tG
def rm_TR_branchDigest (d : Nat) : Room := { frames := 3 * d + 12, cells := 0, slots := 0, locals := 100 * d + 370 }
theorem cb_TR_branchDigest {R : Room} {s : State} {args : Array Value} {own : String} {idx : Nat} {q : Cond} {d : Nat} (hts : ∀ w ∈ q :: tG, w.before args s = true) (hl : Cond.methodLink own idx y_TR_branchDigest ∈ tG) (hR : (rm_TR_branchDigest d).frames + 1 ≤ R.frames ∧ 8 + (6 + 11) + (rm_TR_branchDigest d).locals ≤ R.locals) : CallW R s args own "NibbleTrie$Trie" idx y_TR_branchDigest b_TR_branchDigest 6 (some .long) w_TR_branchDigest (rm_TR_branchDigest d) 0 0 3 := ⟨callB_of 3 hts (gx t_239) rfl rfl rfl (hts _ (List.mem_cons_of_mem _ t_2)) (hts _ (List.mem_cons_of_mem _ hl)) (by decide +kernel) hR, hts _ (List.mem_cons_of_mem _ t_238), hts _ (List.mem_cons_of_mem _ ts_5)⟩
abbrev y_TR_writeBranch : MethodName := ⟨"NibbleTrie$Trie", "writeBranch", "(III[JI)I"⟩
abbrev b_TR_writeBranch : ByteArray := prog_5_method_11_code
abbrev w_TR_writeBranch : List Cond := Cond.code y_TR_writeBranch b_TR_writeBranch 11 (some .int) :: tG
def rm_TR_writeBranch (d : Nat) : Room := { frames := 3 * d + 11, cells := 0, slots := 0, locals := 100 * d + 335 }
theorem cb_TR_writeBranch {R : Room} {s : State} {args : Array Value} {own : String} {idx : Nat} {q : Cond} {d : Nat} (hts : ∀ w ∈ q :: tG, w.before args s = true) (hl : Cond.methodLink own idx y_TR_writeBranch ∈ tG) (hR : (rm_TR_writeBranch d).frames + 1 ≤ R.frames ∧ 8 + (11 + 11) + (rm_TR_writeBranch d).locals ≤ R.locals) : CallW R s args own "NibbleTrie$Trie" idx y_TR_writeBranch b_TR_writeBranch 11 (some .int) w_TR_writeBranch (rm_TR_writeBranch d) 0 0 5 := ⟨callB_of 5 hts (gx t_243) rfl rfl rfl (hts _ (List.mem_cons_of_mem _ t_2)) (hts _ (List.mem_cons_of_mem _ hl)) (by decide +kernel) hR, hts _ (List.mem_cons_of_mem _ t_242), hts _ (List.mem_cons_of_mem _ ts_6)⟩
abbrev y_TR_writeReference : MethodName := ⟨"NibbleTrie$Trie", "writeReference", "(III[JI)I"⟩
abbrev b_TR_writeReference : ByteArray := prog_5_method_12_code
abbrev w_TR_writeReference : List Cond := Cond.code y_TR_writeReference b_TR_writeReference 9 (some .int) :: tG
def rm_TR_writeReference (d : Nat) : Room := { frames := 3 * d + 10, cells := 0, slots := 0, locals := 100 * d + 300 }
theorem cb_TR_writeReference {R : Room} {s : State} {args : Array Value} {own : String} {idx : Nat} {q : Cond} {d : Nat} (hts : ∀ w ∈ q :: tG, w.before args s = true) (hl : Cond.methodLink own idx y_TR_writeReference ∈ tG) (hR : (rm_TR_writeReference d).frames + 1 ≤ R.frames ∧ 8 + (9 + 11) + (rm_TR_writeReference d).locals ≤ R.locals) : CallW R s args own "NibbleTrie$Trie" idx y_TR_writeReference b_TR_writeReference 9 (some .int) w_TR_writeReference (rm_TR_writeReference d) 0 0 5 := ⟨callB_of 5 hts (gx t_231) rfl rfl rfl (hts _ (List.mem_cons_of_mem _ t_2)) (hts _ (List.mem_cons_of_mem _ hl)) (by decide +kernel) hR, hts _ (List.mem_cons_of_mem _ t_230), hts _ (List.mem_cons_of_mem _ ts_4)⟩
abbrev y_TR_writeProof : MethodName := ⟨"NibbleTrie$Trie", "writeProof", "(I[J)I"⟩
abbrev b_TR_writeProof : ByteArray := prog_5_method_13_code
abbrev w_TR_writeProof : List Cond := Cond.code y_TR_writeProof b_TR_writeProof 6 (some .int) :: tG
def rm_TR_writeProof : Room := { frames := 39, cells := 0, slots := 0, locals := 1265 }
theorem cb_TR_writeProof {R : Room} {s : State} {args : Array Value} {own : String} {idx : Nat} {q : Cond} (hts : ∀ w ∈ q :: tG, w.before args s = true) (hl : Cond.methodLink own idx y_TR_writeProof ∈ tG) (hR : rm_TR_writeProof.frames + 1 ≤ R.frames ∧ 8 + (6 + 11) + rm_TR_writeProof.locals ≤ R.locals) : CallW R s args own "NibbleTrie$Trie" idx y_TR_writeProof b_TR_writeProof 6 (some .int) w_TR_writeProof rm_TR_writeProof 0 0 2 := ⟨callB_of 2 hts (gx t_342) rfl rfl rfl (hts _ (List.mem_cons_of_mem _ t_2)) (hts _ (List.mem_cons_of_mem _ hl)) (by decide +kernel) hR, hts _ (List.mem_cons_of_mem _ t_340), hts _ (List.mem_cons_of_mem _ t_341)⟩
abbrev y_TR_pathTo : MethodName := ⟨"NibbleTrie$Trie", "pathTo", "(I)I"⟩
abbrev b_TR_pathTo : ByteArray := prog_5_method_14_code
abbrev w_TR_pathTo : List Cond := Cond.code y_TR_pathTo b_TR_pathTo 2 (some .int) :: tG
def rm_TR_pathTo : Room := { frames := 2, cells := 0, slots := 0, locals := 41 }
theorem cb_TR_pathTo {R : Room} {s : State} {args : Array Value} {own : String} {idx : Nat} {q : Cond} (hts : ∀ w ∈ q :: tG, w.before args s = true) (hl : Cond.methodLink own idx y_TR_pathTo ∈ tG) (hR : rm_TR_pathTo.frames + 1 ≤ R.frames ∧ 8 + (2 + 11) + rm_TR_pathTo.locals ≤ R.locals) : CallW R s args own "NibbleTrie$Trie" idx y_TR_pathTo b_TR_pathTo 2 (some .int) w_TR_pathTo rm_TR_pathTo 0 0 1 := ⟨callB_of 1 hts (gx t_346) rfl rfl rfl (hts _ (List.mem_cons_of_mem _ t_2)) (hts _ (List.mem_cons_of_mem _ hl)) (by decide +kernel) hR, hts _ (List.mem_cons_of_mem _ t_345), hts _ (List.mem_cons_of_mem _ ts_15)⟩
abbrev y_TR_hasAmongFirst : MethodName := ⟨"NibbleTrie$Trie", "hasAmongFirst", "(ILNibbleTrie$Trie;I)Z"⟩
abbrev b_TR_hasAmongFirst : ByteArray := prog_5_method_15_code
abbrev w_TR_hasAmongFirst : List Cond := Cond.code y_TR_hasAmongFirst b_TR_hasAmongFirst 5 (some .boolean) :: tG
def rm_TR_hasAmongFirst : Room := { frames := 3, cells := 0, slots := 0, locals := 71 }
theorem cb_TR_hasAmongFirst {R : Room} {s : State} {args : Array Value} {own : String} {idx : Nat} {q : Cond} (hts : ∀ w ∈ q :: tG, w.before args s = true) (hl : Cond.methodLink own idx y_TR_hasAmongFirst ∈ tG) (hR : rm_TR_hasAmongFirst.frames + 1 ≤ R.frames ∧ 8 + (5 + 11) + rm_TR_hasAmongFirst.locals ≤ R.locals) : CallW R s args own "NibbleTrie$Trie" idx y_TR_hasAmongFirst b_TR_hasAmongFirst 5 (some .boolean) w_TR_hasAmongFirst rm_TR_hasAmongFirst 0 0 3 := ⟨callB_of 3 hts (gx t_266) rfl rfl rfl (hts _ (List.mem_cons_of_mem _ t_2)) (hts _ (List.mem_cons_of_mem _ hl)) (by decide +kernel) hR, hts _ (List.mem_cons_of_mem _ t_264), hts _ (List.mem_cons_of_mem _ t_265)⟩
abbrev y_TR_isSame : MethodName := ⟨"NibbleTrie$Trie", "isSame", "(ILNibbleTrie$Trie;I)Z"⟩
abbrev b_TR_isSame : ByteArray := prog_5_method_16_code
abbrev w_TR_isSame : List Cond := Cond.code y_TR_isSame b_TR_isSame 10 (some .boolean) :: tG
def rm_TR_isSame : Room := { frames := 2, cells := 0, slots := 0, locals := 42 }
theorem cb_TR_isSame {R : Room} {s : State} {args : Array Value} {own : String} {idx : Nat} {q : Cond} (hts : ∀ w ∈ q :: tG, w.before args s = true) (hl : Cond.methodLink own idx y_TR_isSame ∈ tG) (hR : rm_TR_isSame.frames + 1 ≤ R.frames ∧ 8 + (10 + 11) + rm_TR_isSame.locals ≤ R.locals) : CallW R s args own "NibbleTrie$Trie" idx y_TR_isSame b_TR_isSame 10 (some .boolean) w_TR_isSame rm_TR_isSame 0 0 3 := ⟨callB_of 3 hts (gx t_270) rfl rfl rfl (hts _ (List.mem_cons_of_mem _ t_2)) (hts _ (List.mem_cons_of_mem _ hl)) (by decide +kernel) hR, hts _ (List.mem_cons_of_mem _ t_269), hts _ (List.mem_cons_of_mem _ ts_8)⟩
end
section
theorem d_NT_put_0 : decode b_NT_put 0 = .ok (.iload_n 1, 1) := by decide +kernel
theorem d_NT_put_1 : decode b_NT_put 1 = .ok (.i2l, 1) := by decide +kernel
theorem d_NT_put_2 : decode b_NT_put 2 = .ok (.invokestatic 40, 3) := by decide +kernel
theorem d_NT_put_5 : decode b_NT_put 5 = .ok (.ifCond .ne 5, 3) := by decide +kernel
theorem d_NT_put_8 : decode b_NT_put 8 = .ok (.iconst 0, 1) := by decide +kernel
theorem d_NT_put_9 : decode b_NT_put 9 = .ok (.ireturn, 1) := by decide +kernel
theorem d_NT_put_10 : decode b_NT_put 10 = .ok (.aload_n 0, 1) := by decide +kernel
theorem d_NT_put_11 : decode b_NT_put 11 = .ok (.getfield 12, 3) := by decide +kernel
theorem d_NT_put_14 : decode b_NT_put 14 = .ok (.iload_n 1, 1) := by decide +kernel
theorem d_NT_put_15 : decode b_NT_put 15 = .ok (.iload_n 2, 1) := by decide +kernel
theorem d_NT_put_16 : decode b_NT_put 16 = .ok (.invokevirtual 46, 3) := by decide +kernel
theorem d_NT_put_19 : decode b_NT_put 19 = .ok (.ireturn, 1) := by decide +kernel
theorem d_NT_get_0 : decode b_NT_get 0 = .ok (.aload_n 0, 1) := by decide +kernel
theorem d_NT_get_1 : decode b_NT_get 1 = .ok (.getfield 12, 3) := by decide +kernel
theorem d_NT_get_4 : decode b_NT_get 4 = .ok (.getfield 49, 3) := by decide +kernel
theorem d_NT_get_7 : decode b_NT_get 7 = .ok (.iload_n 1, 1) := by decide +kernel
theorem d_NT_get_8 : decode b_NT_get 8 = .ok (.invokevirtual 53, 3) := by decide +kernel
theorem d_NT_get_11 : decode b_NT_get 11 = .ok (.ireturn, 1) := by decide +kernel
theorem d_NT_size_0 : decode b_NT_size 0 = .ok (.aload_n 0, 1) := by decide +kernel
theorem d_NT_size_1 : decode b_NT_size 1 = .ok (.getfield 12, 3) := by decide +kernel
theorem d_NT_size_4 : decode b_NT_size 4 = .ok (.getfield 49, 3) := by decide +kernel
theorem d_NT_size_7 : decode b_NT_size 7 = .ok (.getfield 59, 3) := by decide +kernel
theorem d_NT_size_10 : decode b_NT_size 10 = .ok (.ireturn, 1) := by decide +kernel
theorem d_NT_root_0 : decode b_NT_root 0 = .ok (.aload_n 0, 1) := by decide +kernel
theorem d_NT_root_1 : decode b_NT_root 1 = .ok (.getfield 12, 3) := by decide +kernel
theorem d_NT_root_4 : decode b_NT_root 4 = .ok (.invokevirtual 62, 3) := by decide +kernel
theorem d_NT_root_7 : decode b_NT_root 7 = .ok (.lreturn, 1) := by decide +kernel
theorem d_NT_count_0 : decode b_NT_count 0 = .ok (.iload_n 1, 1) := by decide +kernel
theorem d_NT_count_1 : decode b_NT_count 1 = .ok (.tableswitch 51 0 2 #[27, 35, 43], 27) := by decide +kernel
theorem d_NT_count_28 : decode b_NT_count 28 = .ok (.aload_n 0, 1) := by decide +kernel
theorem d_NT_count_29 : decode b_NT_count 29 = .ok (.getfield 12, 3) := by decide +kernel
theorem d_NT_count_32 : decode b_NT_count 32 = .ok (.getfield 66, 3) := by decide +kernel
theorem d_NT_count_35 : decode b_NT_count 35 = .ok (.ireturn, 1) := by decide +kernel
theorem d_NT_count_36 : decode b_NT_count 36 = .ok (.aload_n 0, 1) := by decide +kernel
theorem d_NT_count_37 : decode b_NT_count 37 = .ok (.getfield 12, 3) := by decide +kernel
theorem d_NT_count_40 : decode b_NT_count 40 = .ok (.getfield 69, 3) := by decide +kernel
theorem d_NT_count_43 : decode b_NT_count 43 = .ok (.ireturn, 1) := by decide +kernel
theorem d_NT_count_44 : decode b_NT_count 44 = .ok (.aload_n 0, 1) := by decide +kernel
theorem d_NT_count_45 : decode b_NT_count 45 = .ok (.getfield 12, 3) := by decide +kernel
theorem d_NT_count_48 : decode b_NT_count 48 = .ok (.getfield 72, 3) := by decide +kernel
theorem d_NT_count_51 : decode b_NT_count 51 = .ok (.ireturn, 1) := by decide +kernel
theorem d_NT_count_52 : decode b_NT_count 52 = .ok (.iconst (-1), 1) := by decide +kernel
theorem d_NT_count_53 : decode b_NT_count 53 = .ok (.ireturn, 1) := by decide +kernel
theorem d_NT_commit_0 : decode b_NT_commit 0 = .ok (.aload_n 0, 1) := by decide +kernel
theorem d_NT_commit_1 : decode b_NT_commit 1 = .ok (.invokevirtual 75, 3) := by decide +kernel
theorem d_NT_commit_4 : decode b_NT_commit 4 = .ok (.istore_n 2, 1) := by decide +kernel
theorem d_NT_commit_5 : decode b_NT_commit 5 = .ok (.iload_n 1, 1) := by decide +kernel
theorem d_NT_commit_6 : decode b_NT_commit 6 = .ok (.iload_n 2, 1) := by decide +kernel
theorem d_NT_commit_7 : decode b_NT_commit 7 = .ok (.iconst 1, 1) := by decide +kernel
theorem d_NT_commit_8 : decode b_NT_commit 8 = .ok (.iadd, 1) := by decide +kernel
theorem d_NT_commit_9 : decode b_NT_commit 9 = .ok (.if_icmp .ge 9, 3) := by decide +kernel
theorem d_NT_commit_12 : decode b_NT_commit 12 = .ok (.aload_n 0, 1) := by decide +kernel
theorem d_NT_commit_13 : decode b_NT_commit 13 = .ok (.invokevirtual 79, 3) := by decide +kernel
theorem d_NT_commit_16 : decode b_NT_commit 16 = .ok (.iconst (-1), 1) := by decide +kernel
theorem d_NT_commit_17 : decode b_NT_commit 17 = .ok (.ireturn, 1) := by decide +kernel
theorem d_NT_commit_18 : decode b_NT_commit 18 = .ok (.aload_n 0, 1) := by decide +kernel
theorem d_NT_commit_19 : decode b_NT_commit 19 = .ok (.invokevirtual 82, 3) := by decide +kernel
theorem d_NT_commit_22 : decode b_NT_commit 22 = .ok (.iload_n 2, 1) := by decide +kernel
theorem d_NT_commit_23 : decode b_NT_commit 23 = .ok (.ireturn, 1) := by decide +kernel
theorem d_NT_crash_0 : decode b_NT_crash 0 = .ok (.aload_n 0, 1) := by decide +kernel
theorem d_NT_crash_1 : decode b_NT_crash 1 = .ok (.invokevirtual 79, 3) := by decide +kernel
theorem d_NT_crash_4 : decode b_NT_crash 4 = .ok (.aload_n 0, 1) := by decide +kernel
theorem d_NT_crash_5 : decode b_NT_crash 5 = .ok (.getfield 12, 3) := by decide +kernel
theorem d_NT_crash_8 : decode b_NT_crash 8 = .ok (.getfield 49, 3) := by decide +kernel
theorem d_NT_crash_11 : decode b_NT_crash 11 = .ok (.getfield 59, 3) := by decide +kernel
theorem d_NT_crash_14 : decode b_NT_crash 14 = .ok (.ireturn, 1) := by decide +kernel
theorem d_NT_versions_0 : decode b_NT_versions 0 = .ok (.aload_n 0, 1) := by decide +kernel
theorem d_NT_versions_1 : decode b_NT_versions 1 = .ok (.getfield 16, 3) := by decide +kernel
theorem d_NT_versions_4 : decode b_NT_versions 4 = .ok (.ireturn, 1) := by decide +kernel
theorem d_NT_at_0 : decode b_NT_at 0 = .ok (.aload_n 0, 1) := by decide +kernel
theorem d_NT_at_1 : decode b_NT_at 1 = .ok (.iload_n 1, 1) := by decide +kernel
theorem d_NT_at_2 : decode b_NT_at 2 = .ok (.invokevirtual 85, 3) := by decide +kernel
theorem d_NT_at_5 : decode b_NT_at 5 = .ok (.ifCond .eq 19, 3) := by decide +kernel
theorem d_NT_at_8 : decode b_NT_at 8 = .ok (.aload_n 0, 1) := by decide +kernel
theorem d_NT_at_9 : decode b_NT_at 9 = .ok (.getfield 36, 3) := by decide +kernel
theorem d_NT_at_12 : decode b_NT_at 12 = .ok (.iload_n 1, 1) := by decide +kernel
theorem d_NT_at_13 : decode b_NT_at 13 = .ok (.aaload, 1) := by decide +kernel
theorem d_NT_at_14 : decode b_NT_at 14 = .ok (.getfield 49, 3) := by decide +kernel
theorem d_NT_at_17 : decode b_NT_at 17 = .ok (.iload_n 2, 1) := by decide +kernel
theorem d_NT_at_18 : decode b_NT_at 18 = .ok (.invokevirtual 53, 3) := by decide +kernel
theorem d_NT_at_21 : decode b_NT_at 21 = .ok (.goto 4, 3) := by decide +kernel
theorem d_NT_at_24 : decode b_NT_at 24 = .ok (.iconst 0, 1) := by decide +kernel
theorem d_NT_at_25 : decode b_NT_at 25 = .ok (.ireturn, 1) := by decide +kernel
theorem d_NT_rootAt_0 : decode b_NT_rootAt 0 = .ok (.aload_n 0, 1) := by decide +kernel
theorem d_NT_rootAt_1 : decode b_NT_rootAt 1 = .ok (.iload_n 1, 1) := by decide +kernel
theorem d_NT_rootAt_2 : decode b_NT_rootAt 2 = .ok (.invokevirtual 85, 3) := by decide +kernel
theorem d_NT_rootAt_5 : decode b_NT_rootAt 5 = .ok (.ifCond .eq 15, 3) := by decide +kernel
theorem d_NT_rootAt_8 : decode b_NT_rootAt 8 = .ok (.aload_n 0, 1) := by decide +kernel
theorem d_NT_rootAt_9 : decode b_NT_rootAt 9 = .ok (.getfield 36, 3) := by decide +kernel
theorem d_NT_rootAt_12 : decode b_NT_rootAt 12 = .ok (.iload_n 1, 1) := by decide +kernel
theorem d_NT_rootAt_13 : decode b_NT_rootAt 13 = .ok (.aaload, 1) := by decide +kernel
theorem d_NT_rootAt_14 : decode b_NT_rootAt 14 = .ok (.invokevirtual 62, 3) := by decide +kernel
theorem d_NT_rootAt_17 : decode b_NT_rootAt 17 = .ok (.goto 4, 3) := by decide +kernel
theorem d_NT_rootAt_20 : decode b_NT_rootAt 20 = .ok (.lconst 0, 1) := by decide +kernel
theorem d_NT_rootAt_21 : decode b_NT_rootAt 21 = .ok (.lreturn, 1) := by decide +kernel
theorem d_NT_stored_0 : decode b_NT_stored 0 = .ok (.iconst 0, 1) := by decide +kernel
theorem d_NT_stored_1 : decode b_NT_stored 1 = .ok (.istore_n 1, 1) := by decide +kernel
theorem d_NT_stored_2 : decode b_NT_stored 2 = .ok (.iconst 0, 1) := by decide +kernel
theorem d_NT_stored_3 : decode b_NT_stored 3 = .ok (.istore_n 2, 1) := by decide +kernel
theorem d_NT_stored_4 : decode b_NT_stored 4 = .ok (.iload_n 2, 1) := by decide +kernel
theorem d_NT_stored_5 : decode b_NT_stored 5 = .ok (.aload_n 0, 1) := by decide +kernel
theorem d_NT_stored_6 : decode b_NT_stored 6 = .ok (.getfield 16, 3) := by decide +kernel
theorem d_NT_stored_9 : decode b_NT_stored 9 = .ok (.if_icmp .ge 42, 3) := by decide +kernel
theorem d_NT_stored_12 : decode b_NT_stored 12 = .ok (.iconst 0, 1) := by decide +kernel
theorem d_NT_stored_13 : decode b_NT_stored 13 = .ok (.istore_n 3, 1) := by decide +kernel
theorem d_NT_stored_14 : decode b_NT_stored 14 = .ok (.iload_n 3, 1) := by decide +kernel
theorem d_NT_stored_15 : decode b_NT_stored 15 = .ok (.aload_n 0, 1) := by decide +kernel
theorem d_NT_stored_16 : decode b_NT_stored 16 = .ok (.getfield 36, 3) := by decide +kernel
theorem d_NT_stored_19 : decode b_NT_stored 19 = .ok (.iload_n 2, 1) := by decide +kernel
theorem d_NT_stored_20 : decode b_NT_stored 20 = .ok (.aaload, 1) := by decide +kernel
theorem d_NT_stored_21 : decode b_NT_stored 21 = .ok (.getfield 72, 3) := by decide +kernel
theorem d_NT_stored_24 : decode b_NT_stored 24 = .ok (.if_icmp .ge 21, 3) := by decide +kernel
theorem d_NT_stored_27 : decode b_NT_stored 27 = .ok (.aload_n 0, 1) := by decide +kernel
theorem d_NT_stored_28 : decode b_NT_stored 28 = .ok (.iload_n 2, 1) := by decide +kernel
theorem d_NT_stored_29 : decode b_NT_stored 29 = .ok (.iload_n 3, 1) := by decide +kernel
theorem d_NT_stored_30 : decode b_NT_stored 30 = .ok (.invokevirtual 89, 3) := by decide +kernel
theorem d_NT_stored_33 : decode b_NT_stored 33 = .ok (.ifCond .eq 6, 3) := by decide +kernel
theorem d_NT_stored_36 : decode b_NT_stored 36 = .ok (.iinc 1 1, 3) := by decide +kernel
theorem d_NT_stored_39 : decode b_NT_stored 39 = .ok (.iinc 3 1, 3) := by decide +kernel
theorem d_NT_stored_42 : decode b_NT_stored 42 = .ok (.goto (-28), 3) := by decide +kernel
theorem d_NT_stored_45 : decode b_NT_stored 45 = .ok (.iinc 2 1, 3) := by decide +kernel
theorem d_NT_stored_48 : decode b_NT_stored 48 = .ok (.goto (-44), 3) := by decide +kernel
theorem d_NT_stored_51 : decode b_NT_stored 51 = .ok (.iload_n 1, 1) := by decide +kernel
theorem d_NT_stored_52 : decode b_NT_stored 52 = .ok (.ireturn, 1) := by decide +kernel
theorem d_NT_uses_0 : decode b_NT_uses 0 = .ok (.iconst 0, 1) := by decide +kernel
theorem d_NT_uses_1 : decode b_NT_uses 1 = .ok (.istore_n 3, 1) := by decide +kernel
theorem d_NT_uses_2 : decode b_NT_uses 2 = .ok (.iconst 0, 1) := by decide +kernel
theorem d_NT_uses_3 : decode b_NT_uses 3 = .ok (.istore 4, 2) := by decide +kernel
theorem d_NT_uses_5 : decode b_NT_uses 5 = .ok (.iload 4, 2) := by decide +kernel
theorem d_NT_uses_7 : decode b_NT_uses 7 = .ok (.aload_n 0, 1) := by decide +kernel
theorem d_NT_uses_8 : decode b_NT_uses 8 = .ok (.getfield 16, 3) := by decide +kernel
theorem d_NT_uses_11 : decode b_NT_uses 11 = .ok (.if_icmp .ge 64, 3) := by decide +kernel
theorem d_NT_uses_14 : decode b_NT_uses 14 = .ok (.iconst 0, 1) := by decide +kernel
theorem d_NT_uses_15 : decode b_NT_uses 15 = .ok (.istore 5, 2) := by decide +kernel
theorem d_NT_uses_17 : decode b_NT_uses 17 = .ok (.iload 5, 2) := by decide +kernel
theorem d_NT_uses_19 : decode b_NT_uses 19 = .ok (.aload_n 0, 1) := by decide +kernel
theorem d_NT_uses_20 : decode b_NT_uses 20 = .ok (.getfield 36, 3) := by decide +kernel
theorem d_NT_uses_23 : decode b_NT_uses 23 = .ok (.iload 4, 2) := by decide +kernel
theorem d_NT_uses_25 : decode b_NT_uses 25 = .ok (.aaload, 1) := by decide +kernel
theorem d_NT_uses_26 : decode b_NT_uses 26 = .ok (.getfield 72, 3) := by decide +kernel
theorem d_NT_uses_29 : decode b_NT_uses 29 = .ok (.if_icmp .ge 40, 3) := by decide +kernel
theorem d_NT_uses_32 : decode b_NT_uses 32 = .ok (.aload_n 0, 1) := by decide +kernel
theorem d_NT_uses_33 : decode b_NT_uses 33 = .ok (.iload 4, 2) := by decide +kernel
theorem d_NT_uses_35 : decode b_NT_uses 35 = .ok (.iload 5, 2) := by decide +kernel
theorem d_NT_uses_37 : decode b_NT_uses 37 = .ok (.invokevirtual 93, 3) := by decide +kernel
theorem d_NT_uses_40 : decode b_NT_uses 40 = .ok (.ifCond .eq 23, 3) := by decide +kernel
theorem d_NT_uses_43 : decode b_NT_uses 43 = .ok (.aload_n 0, 1) := by decide +kernel
theorem d_NT_uses_44 : decode b_NT_uses 44 = .ok (.getfield 36, 3) := by decide +kernel
theorem d_NT_uses_47 : decode b_NT_uses 47 = .ok (.iload 4, 2) := by decide +kernel
theorem d_NT_uses_49 : decode b_NT_uses 49 = .ok (.aaload, 1) := by decide +kernel
theorem d_NT_uses_50 : decode b_NT_uses 50 = .ok (.iload 5, 2) := by decide +kernel
theorem d_NT_uses_52 : decode b_NT_uses 52 = .ok (.invokevirtual 96, 3) := by decide +kernel
theorem d_NT_uses_55 : decode b_NT_uses 55 = .ok (.lload_n 1, 1) := by decide +kernel
theorem d_NT_uses_56 : decode b_NT_uses 56 = .ok (.lcmp, 1) := by decide +kernel
theorem d_NT_uses_57 : decode b_NT_uses 57 = .ok (.ifCond .ne 6, 3) := by decide +kernel
theorem d_NT_uses_60 : decode b_NT_uses 60 = .ok (.iinc 3 1, 3) := by decide +kernel
theorem d_NT_uses_63 : decode b_NT_uses 63 = .ok (.iinc 5 1, 3) := by decide +kernel
theorem d_NT_uses_66 : decode b_NT_uses 66 = .ok (.goto (-49), 3) := by decide +kernel
theorem d_NT_uses_69 : decode b_NT_uses 69 = .ok (.iinc 4 1, 3) := by decide +kernel
theorem d_NT_uses_72 : decode b_NT_uses 72 = .ok (.goto (-67), 3) := by decide +kernel
theorem d_NT_uses_75 : decode b_NT_uses 75 = .ok (.iload_n 3, 1) := by decide +kernel
theorem d_NT_uses_76 : decode b_NT_uses 76 = .ok (.ireturn, 1) := by decide +kernel
theorem d_NT_prove_0 : decode b_NT_prove 0 = .ok (.aload_n 0, 1) := by decide +kernel
theorem d_NT_prove_1 : decode b_NT_prove 1 = .ok (.iload_n 1, 1) := by decide +kernel
theorem d_NT_prove_2 : decode b_NT_prove 2 = .ok (.invokevirtual 85, 3) := by decide +kernel
theorem d_NT_prove_5 : decode b_NT_prove 5 = .ok (.ifCond .eq 11, 3) := by decide +kernel
theorem d_NT_prove_8 : decode b_NT_prove 8 = .ok (.iload_n 2, 1) := by decide +kernel
theorem d_NT_prove_9 : decode b_NT_prove 9 = .ok (.i2l, 1) := by decide +kernel
theorem d_NT_prove_10 : decode b_NT_prove 10 = .ok (.invokestatic 40, 3) := by decide +kernel
theorem d_NT_prove_13 : decode b_NT_prove 13 = .ok (.ifCond .ne 5, 3) := by decide +kernel
theorem d_NT_prove_16 : decode b_NT_prove 16 = .ok (.iconst (-1), 1) := by decide +kernel
theorem d_NT_prove_17 : decode b_NT_prove 17 = .ok (.ireturn, 1) := by decide +kernel
theorem d_NT_prove_18 : decode b_NT_prove 18 = .ok (.aload_n 0, 1) := by decide +kernel
theorem d_NT_prove_19 : decode b_NT_prove 19 = .ok (.getfield 23, 3) := by decide +kernel
theorem d_NT_prove_22 : decode b_NT_prove 22 = .ok (.aload_n 0, 1) := by decide +kernel
theorem d_NT_prove_23 : decode b_NT_prove 23 = .ok (.getfield 36, 3) := by decide +kernel
theorem d_NT_prove_26 : decode b_NT_prove 26 = .ok (.iload_n 1, 1) := by decide +kernel
theorem d_NT_prove_27 : decode b_NT_prove 27 = .ok (.aaload, 1) := by decide +kernel
theorem d_NT_prove_28 : decode b_NT_prove 28 = .ok (.iload_n 2, 1) := by decide +kernel
theorem d_NT_prove_29 : decode b_NT_prove 29 = .ok (.aload_n 0, 1) := by decide +kernel
theorem d_NT_prove_30 : decode b_NT_prove 30 = .ok (.getfield 23, 3) := by decide +kernel
theorem d_NT_prove_33 : decode b_NT_prove 33 = .ok (.getfield 100, 3) := by decide +kernel
theorem d_NT_prove_36 : decode b_NT_prove 36 = .ok (.invokevirtual 104, 3) := by decide +kernel
theorem d_NT_prove_39 : decode b_NT_prove 39 = .ok (.putfield 108, 3) := by decide +kernel
theorem d_NT_prove_42 : decode b_NT_prove 42 = .ok (.aload_n 0, 1) := by decide +kernel
theorem d_NT_prove_43 : decode b_NT_prove 43 = .ok (.getfield 23, 3) := by decide +kernel
theorem d_NT_prove_46 : decode b_NT_prove 46 = .ok (.getfield 108, 3) := by decide +kernel
theorem d_NT_prove_49 : decode b_NT_prove 49 = .ok (.ireturn, 1) := by decide +kernel
theorem d_NT_word_0 : decode b_NT_word 0 = .ok (.aload_n 0, 1) := by decide +kernel
theorem d_NT_word_1 : decode b_NT_word 1 = .ok (.getfield 23, 3) := by decide +kernel
theorem d_NT_word_4 : decode b_NT_word 4 = .ok (.iload_n 1, 1) := by decide +kernel
theorem d_NT_word_5 : decode b_NT_word 5 = .ok (.invokevirtual 111, 3) := by decide +kernel
theorem d_NT_word_8 : decode b_NT_word 8 = .ok (.ifCond .eq 15, 3) := by decide +kernel
theorem d_NT_word_11 : decode b_NT_word 11 = .ok (.aload_n 0, 1) := by decide +kernel
theorem d_NT_word_12 : decode b_NT_word 12 = .ok (.getfield 23, 3) := by decide +kernel
theorem d_NT_word_15 : decode b_NT_word 15 = .ok (.getfield 100, 3) := by decide +kernel
theorem d_NT_word_18 : decode b_NT_word 18 = .ok (.iload_n 1, 1) := by decide +kernel
theorem d_NT_word_19 : decode b_NT_word 19 = .ok (.laload, 1) := by decide +kernel
theorem d_NT_word_20 : decode b_NT_word 20 = .ok (.goto 4, 3) := by decide +kernel
theorem d_NT_word_23 : decode b_NT_word 23 = .ok (.lconst 0, 1) := by decide +kernel
theorem d_NT_word_24 : decode b_NT_word 24 = .ok (.lreturn, 1) := by decide +kernel
theorem d_NT_alter_0 : decode b_NT_alter 0 = .ok (.aload_n 0, 1) := by decide +kernel
theorem d_NT_alter_1 : decode b_NT_alter 1 = .ok (.getfield 23, 3) := by decide +kernel
theorem d_NT_alter_4 : decode b_NT_alter 4 = .ok (.iload_n 1, 1) := by decide +kernel
theorem d_NT_alter_5 : decode b_NT_alter 5 = .ok (.invokevirtual 111, 3) := by decide +kernel
theorem d_NT_alter_8 : decode b_NT_alter 8 = .ok (.ifCond .ne 5, 3) := by decide +kernel
theorem d_NT_alter_11 : decode b_NT_alter 11 = .ok (.iconst 0, 1) := by decide +kernel
theorem d_NT_alter_12 : decode b_NT_alter 12 = .ok (.ireturn, 1) := by decide +kernel
theorem d_NT_alter_13 : decode b_NT_alter 13 = .ok (.aload_n 0, 1) := by decide +kernel
theorem d_NT_alter_14 : decode b_NT_alter 14 = .ok (.getfield 23, 3) := by decide +kernel
theorem d_NT_alter_17 : decode b_NT_alter 17 = .ok (.getfield 100, 3) := by decide +kernel
theorem d_NT_alter_20 : decode b_NT_alter 20 = .ok (.iload_n 1, 1) := by decide +kernel
theorem d_NT_alter_21 : decode b_NT_alter 21 = .ok (.lload_n 2, 1) := by decide +kernel
theorem d_NT_alter_22 : decode b_NT_alter 22 = .ok (.lastore, 1) := by decide +kernel
theorem d_NT_alter_23 : decode b_NT_alter 23 = .ok (.iconst 1, 1) := by decide +kernel
theorem d_NT_alter_24 : decode b_NT_alter 24 = .ok (.ireturn, 1) := by decide +kernel
theorem d_NT_cut_0 : decode b_NT_cut 0 = .ok (.aload_n 0, 1) := by decide +kernel
theorem d_NT_cut_1 : decode b_NT_cut 1 = .ok (.getfield 23, 3) := by decide +kernel
theorem d_NT_cut_4 : decode b_NT_cut 4 = .ok (.getfield 108, 3) := by decide +kernel
theorem d_NT_cut_7 : decode b_NT_cut 7 = .ok (.ifCond .le 16, 3) := by decide +kernel
theorem d_NT_cut_10 : decode b_NT_cut 10 = .ok (.aload_n 0, 1) := by decide +kernel
theorem d_NT_cut_11 : decode b_NT_cut 11 = .ok (.getfield 23, 3) := by decide +kernel
theorem d_NT_cut_14 : decode b_NT_cut 14 = .ok (.dup, 1) := by decide +kernel
theorem d_NT_cut_15 : decode b_NT_cut 15 = .ok (.getfield 108, 3) := by decide +kernel
theorem d_NT_cut_18 : decode b_NT_cut 18 = .ok (.iconst 1, 1) := by decide +kernel
theorem d_NT_cut_19 : decode b_NT_cut 19 = .ok (.isub, 1) := by decide +kernel
theorem d_NT_cut_20 : decode b_NT_cut 20 = .ok (.putfield 108, 3) := by decide +kernel
theorem d_NT_cut_23 : decode b_NT_cut 23 = .ok (.aload_n 0, 1) := by decide +kernel
theorem d_NT_cut_24 : decode b_NT_cut 24 = .ok (.getfield 23, 3) := by decide +kernel
theorem d_NT_cut_27 : decode b_NT_cut 27 = .ok (.getfield 108, 3) := by decide +kernel
theorem d_NT_cut_30 : decode b_NT_cut 30 = .ok (.ireturn, 1) := by decide +kernel
theorem d_NT_verify_0 : decode b_NT_verify 0 = .ok (.iload_n 3, 1) := by decide +kernel
theorem d_NT_verify_1 : decode b_NT_verify 1 = .ok (.i2l, 1) := by decide +kernel
theorem d_NT_verify_2 : decode b_NT_verify 2 = .ok (.invokestatic 40, 3) := by decide +kernel
theorem d_NT_verify_5 : decode b_NT_verify 5 = .ok (.ifCond .eq 22, 3) := by decide +kernel
theorem d_NT_verify_8 : decode b_NT_verify 8 = .ok (.aload_n 0, 1) := by decide +kernel
theorem d_NT_verify_9 : decode b_NT_verify 9 = .ok (.getfield 23, 3) := by decide +kernel
theorem d_NT_verify_12 : decode b_NT_verify 12 = .ok (.lload_n 1, 1) := by decide +kernel
theorem d_NT_verify_13 : decode b_NT_verify 13 = .ok (.iload_n 3, 1) := by decide +kernel
theorem d_NT_verify_14 : decode b_NT_verify 14 = .ok (.iload 4, 2) := by decide +kernel
theorem d_NT_verify_16 : decode b_NT_verify 16 = .ok (.i2l, 1) := by decide +kernel
theorem d_NT_verify_17 : decode b_NT_verify 17 = .ok (.invokevirtual 114, 3) := by decide +kernel
theorem d_NT_verify_20 : decode b_NT_verify 20 = .ok (.ifCond .eq 7, 3) := by decide +kernel
theorem d_NT_verify_23 : decode b_NT_verify 23 = .ok (.iconst 1, 1) := by decide +kernel
theorem d_NT_verify_24 : decode b_NT_verify 24 = .ok (.goto 4, 3) := by decide +kernel
theorem d_NT_verify_27 : decode b_NT_verify 27 = .ok (.iconst 0, 1) := by decide +kernel
theorem d_NT_verify_28 : decode b_NT_verify 28 = .ok (.ireturn, 1) := by decide +kernel
theorem d_NT_isKept_0 : decode b_NT_isKept 0 = .ok (.iload_n 1, 1) := by decide +kernel
theorem d_NT_isKept_1 : decode b_NT_isKept 1 = .ok (.ifCond .lt 15, 3) := by decide +kernel
theorem d_NT_isKept_4 : decode b_NT_isKept 4 = .ok (.iload_n 1, 1) := by decide +kernel
theorem d_NT_isKept_5 : decode b_NT_isKept 5 = .ok (.aload_n 0, 1) := by decide +kernel
theorem d_NT_isKept_6 : decode b_NT_isKept 6 = .ok (.getfield 16, 3) := by decide +kernel
theorem d_NT_isKept_9 : decode b_NT_isKept 9 = .ok (.if_icmp .ge 7, 3) := by decide +kernel
theorem d_NT_isKept_12 : decode b_NT_isKept 12 = .ok (.iconst 1, 1) := by decide +kernel
theorem d_NT_isKept_13 : decode b_NT_isKept 13 = .ok (.goto 4, 3) := by decide +kernel
theorem d_NT_isKept_16 : decode b_NT_isKept 16 = .ok (.iconst 0, 1) := by decide +kernel
theorem d_NT_isKept_17 : decode b_NT_isKept 17 = .ok (.ireturn, 1) := by decide +kernel
theorem d_NT_branchesToWrite_0 : decode b_NT_branchesToWrite 0 = .ok (.iconst 0, 1) := by decide +kernel
theorem d_NT_branchesToWrite_1 : decode b_NT_branchesToWrite 1 = .ok (.istore_n 1, 1) := by decide +kernel
theorem d_NT_branchesToWrite_2 : decode b_NT_branchesToWrite 2 = .ok (.iconst 0, 1) := by decide +kernel
theorem d_NT_branchesToWrite_3 : decode b_NT_branchesToWrite 3 = .ok (.istore_n 2, 1) := by decide +kernel
theorem d_NT_branchesToWrite_4 : decode b_NT_branchesToWrite 4 = .ok (.iload_n 2, 1) := by decide +kernel
theorem d_NT_branchesToWrite_5 : decode b_NT_branchesToWrite 5 = .ok (.aload_n 0, 1) := by decide +kernel
theorem d_NT_branchesToWrite_6 : decode b_NT_branchesToWrite 6 = .ok (.getfield 12, 3) := by decide +kernel
theorem d_NT_branchesToWrite_9 : decode b_NT_branchesToWrite 9 = .ok (.getfield 72, 3) := by decide +kernel
theorem d_NT_branchesToWrite_12 : decode b_NT_branchesToWrite 12 = .ok (.if_icmp .ge 46, 3) := by decide +kernel
theorem d_NT_branchesToWrite_15 : decode b_NT_branchesToWrite 15 = .ok (.aload_n 0, 1) := by decide +kernel
theorem d_NT_branchesToWrite_16 : decode b_NT_branchesToWrite 16 = .ok (.getfield 12, 3) := by decide +kernel
theorem d_NT_branchesToWrite_19 : decode b_NT_branchesToWrite 19 = .ok (.iload_n 2, 1) := by decide +kernel
theorem d_NT_branchesToWrite_20 : decode b_NT_branchesToWrite 20 = .ok (.aload_n 0, 1) := by decide +kernel
theorem d_NT_branchesToWrite_21 : decode b_NT_branchesToWrite 21 = .ok (.getfield 12, 3) := by decide +kernel
theorem d_NT_branchesToWrite_24 : decode b_NT_branchesToWrite 24 = .ok (.iload_n 2, 1) := by decide +kernel
theorem d_NT_branchesToWrite_25 : decode b_NT_branchesToWrite 25 = .ok (.invokevirtual 118, 3) := by decide +kernel
theorem d_NT_branchesToWrite_28 : decode b_NT_branchesToWrite 28 = .ok (.istore_n 3, 1) := by decide +kernel
theorem d_NT_branchesToWrite_29 : decode b_NT_branchesToWrite 29 = .ok (.iload_n 3, 1) := by decide +kernel
theorem d_NT_branchesToWrite_30 : decode b_NT_branchesToWrite 30 = .ok (.ifCond .ne 22, 3) := by decide +kernel
theorem d_NT_branchesToWrite_33 : decode b_NT_branchesToWrite 33 = .ok (.aload_n 0, 1) := by decide +kernel
theorem d_NT_branchesToWrite_34 : decode b_NT_branchesToWrite 34 = .ok (.aload_n 0, 1) := by decide +kernel
theorem d_NT_branchesToWrite_35 : decode b_NT_branchesToWrite 35 = .ok (.getfield 16, 3) := by decide +kernel
theorem d_NT_branchesToWrite_38 : decode b_NT_branchesToWrite 38 = .ok (.aload_n 0, 1) := by decide +kernel
theorem d_NT_branchesToWrite_39 : decode b_NT_branchesToWrite 39 = .ok (.getfield 12, 3) := by decide +kernel
theorem d_NT_branchesToWrite_42 : decode b_NT_branchesToWrite 42 = .ok (.iload_n 2, 1) := by decide +kernel
theorem d_NT_branchesToWrite_43 : decode b_NT_branchesToWrite 43 = .ok (.invokevirtual 122, 3) := by decide +kernel
theorem d_NT_branchesToWrite_46 : decode b_NT_branchesToWrite 46 = .ok (.ifCond .ne 6, 3) := by decide +kernel
theorem d_NT_branchesToWrite_49 : decode b_NT_branchesToWrite 49 = .ok (.iinc 1 1, 3) := by decide +kernel
theorem d_NT_branchesToWrite_52 : decode b_NT_branchesToWrite 52 = .ok (.iinc 2 1, 3) := by decide +kernel
theorem d_NT_branchesToWrite_55 : decode b_NT_branchesToWrite 55 = .ok (.goto (-51), 3) := by decide +kernel
theorem d_NT_branchesToWrite_58 : decode b_NT_branchesToWrite 58 = .ok (.iload_n 1, 1) := by decide +kernel
theorem d_NT_branchesToWrite_59 : decode b_NT_branchesToWrite 59 = .ok (.ireturn, 1) := by decide +kernel
theorem d_NT_isAmongVersions_0 : decode b_NT_isAmongVersions 0 = .ok (.iconst 0, 1) := by decide +kernel
theorem d_NT_isAmongVersions_1 : decode b_NT_isAmongVersions 1 = .ok (.istore 4, 2) := by decide +kernel
theorem d_NT_isAmongVersions_3 : decode b_NT_isAmongVersions 3 = .ok (.iload 4, 2) := by decide +kernel
theorem d_NT_isAmongVersions_5 : decode b_NT_isAmongVersions 5 = .ok (.iload_n 1, 1) := by decide +kernel
theorem d_NT_isAmongVersions_6 : decode b_NT_isAmongVersions 6 = .ok (.if_icmp .ge 36, 3) := by decide +kernel
theorem d_NT_isAmongVersions_9 : decode b_NT_isAmongVersions 9 = .ok (.aload_n 0, 1) := by decide +kernel
theorem d_NT_isAmongVersions_10 : decode b_NT_isAmongVersions 10 = .ok (.getfield 36, 3) := by decide +kernel
theorem d_NT_isAmongVersions_13 : decode b_NT_isAmongVersions 13 = .ok (.iload 4, 2) := by decide +kernel
theorem d_NT_isAmongVersions_15 : decode b_NT_isAmongVersions 15 = .ok (.aaload, 1) := by decide +kernel
theorem d_NT_isAmongVersions_16 : decode b_NT_isAmongVersions 16 = .ok (.aload_n 0, 1) := by decide +kernel
theorem d_NT_isAmongVersions_17 : decode b_NT_isAmongVersions 17 = .ok (.getfield 36, 3) := by decide +kernel
theorem d_NT_isAmongVersions_20 : decode b_NT_isAmongVersions 20 = .ok (.iload 4, 2) := by decide +kernel
theorem d_NT_isAmongVersions_22 : decode b_NT_isAmongVersions 22 = .ok (.aaload, 1) := by decide +kernel
theorem d_NT_isAmongVersions_23 : decode b_NT_isAmongVersions 23 = .ok (.getfield 72, 3) := by decide +kernel
theorem d_NT_isAmongVersions_26 : decode b_NT_isAmongVersions 26 = .ok (.aload_n 2, 1) := by decide +kernel
theorem d_NT_isAmongVersions_27 : decode b_NT_isAmongVersions 27 = .ok (.iload_n 3, 1) := by decide +kernel
theorem d_NT_isAmongVersions_28 : decode b_NT_isAmongVersions 28 = .ok (.invokevirtual 118, 3) := by decide +kernel
theorem d_NT_isAmongVersions_31 : decode b_NT_isAmongVersions 31 = .ok (.ifCond .eq 5, 3) := by decide +kernel
theorem d_NT_isAmongVersions_34 : decode b_NT_isAmongVersions 34 = .ok (.iconst 1, 1) := by decide +kernel
theorem d_NT_isAmongVersions_35 : decode b_NT_isAmongVersions 35 = .ok (.ireturn, 1) := by decide +kernel
theorem d_NT_isAmongVersions_36 : decode b_NT_isAmongVersions 36 = .ok (.iinc 4 1, 3) := by decide +kernel
theorem d_NT_isAmongVersions_39 : decode b_NT_isAmongVersions 39 = .ok (.goto (-36), 3) := by decide +kernel
theorem d_NT_isAmongVersions_42 : decode b_NT_isAmongVersions 42 = .ok (.iconst 0, 1) := by decide +kernel
theorem d_NT_isAmongVersions_43 : decode b_NT_isAmongVersions 43 = .ok (.ireturn, 1) := by decide +kernel
theorem d_NT_isFirstOfItsKind_0 : decode b_NT_isFirstOfItsKind 0 = .ok (.aload_n 0, 1) := by decide +kernel
theorem d_NT_isFirstOfItsKind_1 : decode b_NT_isFirstOfItsKind 1 = .ok (.iload_n 1, 1) := by decide +kernel
theorem d_NT_isFirstOfItsKind_2 : decode b_NT_isFirstOfItsKind 2 = .ok (.aload_n 0, 1) := by decide +kernel
theorem d_NT_isFirstOfItsKind_3 : decode b_NT_isFirstOfItsKind 3 = .ok (.getfield 36, 3) := by decide +kernel
theorem d_NT_isFirstOfItsKind_6 : decode b_NT_isFirstOfItsKind 6 = .ok (.iload_n 1, 1) := by decide +kernel
theorem d_NT_isFirstOfItsKind_7 : decode b_NT_isFirstOfItsKind 7 = .ok (.aaload, 1) := by decide +kernel
theorem d_NT_isFirstOfItsKind_8 : decode b_NT_isFirstOfItsKind 8 = .ok (.iload_n 2, 1) := by decide +kernel
theorem d_NT_isFirstOfItsKind_9 : decode b_NT_isFirstOfItsKind 9 = .ok (.invokevirtual 122, 3) := by decide +kernel
theorem d_NT_isFirstOfItsKind_12 : decode b_NT_isFirstOfItsKind 12 = .ok (.ifCond .ne 27, 3) := by decide +kernel
theorem d_NT_isFirstOfItsKind_15 : decode b_NT_isFirstOfItsKind 15 = .ok (.aload_n 0, 1) := by decide +kernel
theorem d_NT_isFirstOfItsKind_16 : decode b_NT_isFirstOfItsKind 16 = .ok (.getfield 36, 3) := by decide +kernel
theorem d_NT_isFirstOfItsKind_19 : decode b_NT_isFirstOfItsKind 19 = .ok (.iload_n 1, 1) := by decide +kernel
theorem d_NT_isFirstOfItsKind_20 : decode b_NT_isFirstOfItsKind 20 = .ok (.aaload, 1) := by decide +kernel
theorem d_NT_isFirstOfItsKind_21 : decode b_NT_isFirstOfItsKind 21 = .ok (.iload_n 2, 1) := by decide +kernel
theorem d_NT_isFirstOfItsKind_22 : decode b_NT_isFirstOfItsKind 22 = .ok (.aload_n 0, 1) := by decide +kernel
theorem d_NT_isFirstOfItsKind_23 : decode b_NT_isFirstOfItsKind 23 = .ok (.getfield 36, 3) := by decide +kernel
theorem d_NT_isFirstOfItsKind_26 : decode b_NT_isFirstOfItsKind 26 = .ok (.iload_n 1, 1) := by decide +kernel
theorem d_NT_isFirstOfItsKind_27 : decode b_NT_isFirstOfItsKind 27 = .ok (.aaload, 1) := by decide +kernel
theorem d_NT_isFirstOfItsKind_28 : decode b_NT_isFirstOfItsKind 28 = .ok (.iload_n 2, 1) := by decide +kernel
theorem d_NT_isFirstOfItsKind_29 : decode b_NT_isFirstOfItsKind 29 = .ok (.invokevirtual 118, 3) := by decide +kernel
theorem d_NT_isFirstOfItsKind_32 : decode b_NT_isFirstOfItsKind 32 = .ok (.ifCond .ne 7, 3) := by decide +kernel
theorem d_NT_isFirstOfItsKind_35 : decode b_NT_isFirstOfItsKind 35 = .ok (.iconst 1, 1) := by decide +kernel
theorem d_NT_isFirstOfItsKind_36 : decode b_NT_isFirstOfItsKind 36 = .ok (.goto 4, 3) := by decide +kernel
theorem d_NT_isFirstOfItsKind_39 : decode b_NT_isFirstOfItsKind 39 = .ok (.iconst 0, 1) := by decide +kernel
theorem d_NT_isFirstOfItsKind_40 : decode b_NT_isFirstOfItsKind 40 = .ok (.ireturn, 1) := by decide +kernel
theorem d_NT_isUse_0 : decode b_NT_isUse 0 = .ok (.aload_n 0, 1) := by decide +kernel
theorem d_NT_isUse_1 : decode b_NT_isUse 1 = .ok (.getfield 36, 3) := by decide +kernel
theorem d_NT_isUse_4 : decode b_NT_isUse 4 = .ok (.iload_n 1, 1) := by decide +kernel
theorem d_NT_isUse_5 : decode b_NT_isUse 5 = .ok (.aaload, 1) := by decide +kernel
theorem d_NT_isUse_6 : decode b_NT_isUse 6 = .ok (.getfield 125, 3) := by decide +kernel
theorem d_NT_isUse_9 : decode b_NT_isUse 9 = .ok (.iload_n 2, 1) := by decide +kernel
theorem d_NT_isUse_10 : decode b_NT_isUse 10 = .ok (.iaload, 1) := by decide +kernel
theorem d_NT_isUse_11 : decode b_NT_isUse 11 = .ok (.istore_n 3, 1) := by decide +kernel
theorem d_NT_isUse_12 : decode b_NT_isUse 12 = .ok (.iload_n 3, 1) := by decide +kernel
theorem d_NT_isUse_13 : decode b_NT_isUse 13 = .ok (.iconst (-1), 1) := by decide +kernel
theorem d_NT_isUse_14 : decode b_NT_isUse 14 = .ok (.if_icmp .eq 12, 3) := by decide +kernel
theorem d_NT_isUse_17 : decode b_NT_isUse 17 = .ok (.aload_n 0, 1) := by decide +kernel
theorem d_NT_isUse_18 : decode b_NT_isUse 18 = .ok (.iload_n 1, 1) := by decide +kernel
theorem d_NT_isUse_19 : decode b_NT_isUse 19 = .ok (.iload_n 3, 1) := by decide +kernel
theorem d_NT_isUse_20 : decode b_NT_isUse 20 = .ok (.invokevirtual 89, 3) := by decide +kernel
theorem d_NT_isUse_23 : decode b_NT_isUse 23 = .ok (.ifCond .eq 7, 3) := by decide +kernel
theorem d_NT_isUse_26 : decode b_NT_isUse 26 = .ok (.iconst 1, 1) := by decide +kernel
theorem d_NT_isUse_27 : decode b_NT_isUse 27 = .ok (.goto 4, 3) := by decide +kernel
theorem d_NT_isUse_30 : decode b_NT_isUse 30 = .ok (.iconst 0, 1) := by decide +kernel
theorem d_NT_isUse_31 : decode b_NT_isUse 31 = .ok (.ireturn, 1) := by decide +kernel
theorem d_NT_keepWorking_0 : decode b_NT_keepWorking 0 = .ok (.aload_n 0, 1) := by decide +kernel
theorem d_NT_keepWorking_1 : decode b_NT_keepWorking 1 = .ok (.getfield 36, 3) := by decide +kernel
theorem d_NT_keepWorking_4 : decode b_NT_keepWorking 4 = .ok (.arraylength, 1) := by decide +kernel
theorem d_NT_keepWorking_5 : decode b_NT_keepWorking 5 = .ok (.iconst 1, 1) := by decide +kernel
theorem d_NT_keepWorking_6 : decode b_NT_keepWorking 6 = .ok (.isub, 1) := by decide +kernel
theorem d_NT_keepWorking_7 : decode b_NT_keepWorking 7 = .ok (.istore_n 1, 1) := by decide +kernel
theorem d_NT_keepWorking_8 : decode b_NT_keepWorking 8 = .ok (.aload_n 0, 1) := by decide +kernel
theorem d_NT_keepWorking_9 : decode b_NT_keepWorking 9 = .ok (.getfield 36, 3) := by decide +kernel
theorem d_NT_keepWorking_12 : decode b_NT_keepWorking 12 = .ok (.iload_n 1, 1) := by decide +kernel
theorem d_NT_keepWorking_13 : decode b_NT_keepWorking 13 = .ok (.aaload, 1) := by decide +kernel
theorem d_NT_keepWorking_14 : decode b_NT_keepWorking 14 = .ok (.astore_n 2, 1) := by decide +kernel
theorem d_NT_keepWorking_15 : decode b_NT_keepWorking 15 = .ok (.iload_n 1, 1) := by decide +kernel
theorem d_NT_keepWorking_16 : decode b_NT_keepWorking 16 = .ok (.istore_n 3, 1) := by decide +kernel
theorem d_NT_keepWorking_17 : decode b_NT_keepWorking 17 = .ok (.iload_n 3, 1) := by decide +kernel
theorem d_NT_keepWorking_18 : decode b_NT_keepWorking 18 = .ok (.ifCond .le 23, 3) := by decide +kernel
theorem d_NT_keepWorking_21 : decode b_NT_keepWorking 21 = .ok (.aload_n 0, 1) := by decide +kernel
theorem d_NT_keepWorking_22 : decode b_NT_keepWorking 22 = .ok (.getfield 36, 3) := by decide +kernel
theorem d_NT_keepWorking_25 : decode b_NT_keepWorking 25 = .ok (.iload_n 3, 1) := by decide +kernel
theorem d_NT_keepWorking_26 : decode b_NT_keepWorking 26 = .ok (.aload_n 0, 1) := by decide +kernel
theorem d_NT_keepWorking_27 : decode b_NT_keepWorking 27 = .ok (.getfield 36, 3) := by decide +kernel
theorem d_NT_keepWorking_30 : decode b_NT_keepWorking 30 = .ok (.iload_n 3, 1) := by decide +kernel
theorem d_NT_keepWorking_31 : decode b_NT_keepWorking 31 = .ok (.iconst 1, 1) := by decide +kernel
theorem d_NT_keepWorking_32 : decode b_NT_keepWorking 32 = .ok (.isub, 1) := by decide +kernel
theorem d_NT_keepWorking_33 : decode b_NT_keepWorking 33 = .ok (.aaload, 1) := by decide +kernel
theorem d_NT_keepWorking_34 : decode b_NT_keepWorking 34 = .ok (.aastore, 1) := by decide +kernel
theorem d_NT_keepWorking_35 : decode b_NT_keepWorking 35 = .ok (.iinc 3 (-1), 3) := by decide +kernel
theorem d_NT_keepWorking_38 : decode b_NT_keepWorking 38 = .ok (.goto (-21), 3) := by decide +kernel
theorem d_NT_keepWorking_41 : decode b_NT_keepWorking 41 = .ok (.aload_n 0, 1) := by decide +kernel
theorem d_NT_keepWorking_42 : decode b_NT_keepWorking 42 = .ok (.getfield 36, 3) := by decide +kernel
theorem d_NT_keepWorking_45 : decode b_NT_keepWorking 45 = .ok (.iconst 0, 1) := by decide +kernel
theorem d_NT_keepWorking_46 : decode b_NT_keepWorking 46 = .ok (.aload_n 2, 1) := by decide +kernel
theorem d_NT_keepWorking_47 : decode b_NT_keepWorking 47 = .ok (.aastore, 1) := by decide +kernel
theorem d_NT_keepWorking_48 : decode b_NT_keepWorking 48 = .ok (.aload_n 2, 1) := by decide +kernel
theorem d_NT_keepWorking_49 : decode b_NT_keepWorking 49 = .ok (.aload_n 0, 1) := by decide +kernel
theorem d_NT_keepWorking_50 : decode b_NT_keepWorking 50 = .ok (.getfield 12, 3) := by decide +kernel
theorem d_NT_keepWorking_53 : decode b_NT_keepWorking 53 = .ok (.invokevirtual 129, 3) := by decide +kernel
theorem d_NT_keepWorking_56 : decode b_NT_keepWorking 56 = .ok (.aload_n 0, 1) := by decide +kernel
theorem d_NT_keepWorking_57 : decode b_NT_keepWorking 57 = .ok (.aload_n 0, 1) := by decide +kernel
theorem d_NT_keepWorking_58 : decode b_NT_keepWorking 58 = .ok (.getfield 16, 3) := by decide +kernel
theorem d_NT_keepWorking_61 : decode b_NT_keepWorking 61 = .ok (.iconst 1, 1) := by decide +kernel
theorem d_NT_keepWorking_62 : decode b_NT_keepWorking 62 = .ok (.iadd, 1) := by decide +kernel
theorem d_NT_keepWorking_63 : decode b_NT_keepWorking 63 = .ok (.aload_n 0, 1) := by decide +kernel
theorem d_NT_keepWorking_64 : decode b_NT_keepWorking 64 = .ok (.getfield 36, 3) := by decide +kernel
theorem d_NT_keepWorking_67 : decode b_NT_keepWorking 67 = .ok (.arraylength, 1) := by decide +kernel
theorem d_NT_keepWorking_68 : decode b_NT_keepWorking 68 = .ok (.invokestatic 27, 3) := by decide +kernel
theorem d_NT_keepWorking_71 : decode b_NT_keepWorking 71 = .ok (.putfield 16, 3) := by decide +kernel
theorem d_NT_keepWorking_74 : decode b_NT_keepWorking 74 = .ok (.return_, 1) := by decide +kernel
theorem d_NT_goDown_0 : decode b_NT_goDown 0 = .ok (.aload_n 0, 1) := by decide +kernel
theorem d_NT_goDown_1 : decode b_NT_goDown 1 = .ok (.getfield 12, 3) := by decide +kernel
theorem d_NT_goDown_4 : decode b_NT_goDown 4 = .ok (.aload_n 0, 1) := by decide +kernel
theorem d_NT_goDown_5 : decode b_NT_goDown 5 = .ok (.getfield 36, 3) := by decide +kernel
theorem d_NT_goDown_8 : decode b_NT_goDown 8 = .ok (.iconst 0, 1) := by decide +kernel
theorem d_NT_goDown_9 : decode b_NT_goDown 9 = .ok (.aaload, 1) := by decide +kernel
theorem d_NT_goDown_10 : decode b_NT_goDown 10 = .ok (.invokevirtual 129, 3) := by decide +kernel
theorem d_NT_goDown_13 : decode b_NT_goDown 13 = .ok (.return_, 1) := by decide +kernel
theorem d_NT_digest_0 : decode b_NT_digest 0 = .ok (.iload_n 2, 1) := by decide +kernel
theorem d_NT_digest_1 : decode b_NT_digest 1 = .ok (.i2l, 1) := by decide +kernel
theorem d_NT_digest_2 : decode b_NT_digest 2 = .ok (.lstore_n 3, 1) := by decide +kernel
theorem d_NT_digest_3 : decode b_NT_digest 3 = .ok (.iload_n 1, 1) := by decide +kernel
theorem d_NT_digest_4 : decode b_NT_digest 4 = .ok (.istore 5, 2) := by decide +kernel
theorem d_NT_digest_6 : decode b_NT_digest 6 = .ok (.iload 5, 2) := by decide +kernel
theorem d_NT_digest_8 : decode b_NT_digest 8 = .ok (.iload_n 1, 1) := by decide +kernel
theorem d_NT_digest_9 : decode b_NT_digest 9 = .ok (.iload_n 2, 1) := by decide +kernel
theorem d_NT_digest_10 : decode b_NT_digest 10 = .ok (.iadd, 1) := by decide +kernel
theorem d_NT_digest_11 : decode b_NT_digest 11 = .ok (.if_icmp .ge 27, 3) := by decide +kernel
theorem d_NT_digest_14 : decode b_NT_digest 14 = .ok (.lload_n 3, 1) := by decide +kernel
theorem d_NT_digest_15 : decode b_NT_digest 15 = .ok (.aload_n 0, 1) := by decide +kernel
theorem d_NT_digest_16 : decode b_NT_digest 16 = .ok (.iload 5, 2) := by decide +kernel
theorem d_NT_digest_18 : decode b_NT_digest 18 = .ok (.laload, 1) := by decide +kernel
theorem d_NT_digest_19 : decode b_NT_digest 19 = .ok (.lxor, 1) := by decide +kernel
theorem d_NT_digest_20 : decode b_NT_digest 20 = .ok (.ldc2_w 133, 3) := by decide +kernel
theorem d_NT_digest_23 : decode b_NT_digest 23 = .ok (.lmul, 1) := by decide +kernel
theorem d_NT_digest_24 : decode b_NT_digest 24 = .ok (.lstore_n 3, 1) := by decide +kernel
theorem d_NT_digest_25 : decode b_NT_digest 25 = .ok (.lload_n 3, 1) := by decide +kernel
theorem d_NT_digest_26 : decode b_NT_digest 26 = .ok (.lload_n 3, 1) := by decide +kernel
theorem d_NT_digest_27 : decode b_NT_digest 27 = .ok (.bipush 29, 2) := by decide +kernel
theorem d_NT_digest_29 : decode b_NT_digest 29 = .ok (.lushr, 1) := by decide +kernel
theorem d_NT_digest_30 : decode b_NT_digest 30 = .ok (.lxor, 1) := by decide +kernel
theorem d_NT_digest_31 : decode b_NT_digest 31 = .ok (.lstore_n 3, 1) := by decide +kernel
theorem d_NT_digest_32 : decode b_NT_digest 32 = .ok (.iinc 5 1, 3) := by decide +kernel
theorem d_NT_digest_35 : decode b_NT_digest 35 = .ok (.goto (-29), 3) := by decide +kernel
theorem d_NT_digest_38 : decode b_NT_digest 38 = .ok (.lload_n 3, 1) := by decide +kernel
theorem d_NT_digest_39 : decode b_NT_digest 39 = .ok (.lreturn, 1) := by decide +kernel
theorem d_MO_nibbles_0 : decode b_MO_nibbles 0 = .ok (.iload_n 0, 1) := by decide +kernel
theorem d_MO_nibbles_1 : decode b_MO_nibbles 1 = .ok (.iconst 1, 1) := by decide +kernel
theorem d_MO_nibbles_2 : decode b_MO_nibbles 2 = .ok (.if_icmp .ne 7, 3) := by decide +kernel
theorem d_MO_nibbles_5 : decode b_MO_nibbles 5 = .ok (.iconst 0, 1) := by decide +kernel
theorem d_MO_nibbles_6 : decode b_MO_nibbles 6 = .ok (.goto 72, 3) := by decide +kernel
theorem d_MO_nibbles_9 : decode b_MO_nibbles 9 = .ok (.iload_n 0, 1) := by decide +kernel
theorem d_MO_nibbles_10 : decode b_MO_nibbles 10 = .ok (.bipush 16, 2) := by decide +kernel
theorem d_MO_nibbles_12 : decode b_MO_nibbles 12 = .ok (.if_icmp .lt 13, 3) := by decide +kernel
theorem d_MO_nibbles_15 : decode b_MO_nibbles 15 = .ok (.iload_n 0, 1) := by decide +kernel
theorem d_MO_nibbles_16 : decode b_MO_nibbles 16 = .ok (.bipush 32, 2) := by decide +kernel
theorem d_MO_nibbles_18 : decode b_MO_nibbles 18 = .ok (.if_icmp .ge 7, 3) := by decide +kernel
theorem d_MO_nibbles_21 : decode b_MO_nibbles 21 = .ok (.iconst 1, 1) := by decide +kernel
theorem d_MO_nibbles_22 : decode b_MO_nibbles 22 = .ok (.goto 56, 3) := by decide +kernel
theorem d_MO_nibbles_25 : decode b_MO_nibbles 25 = .ok (.iload_n 0, 1) := by decide +kernel
theorem d_MO_nibbles_26 : decode b_MO_nibbles 26 = .ok (.sipush 256, 3) := by decide +kernel
theorem d_MO_nibbles_29 : decode b_MO_nibbles 29 = .ok (.if_icmp .lt 14, 3) := by decide +kernel
theorem d_MO_nibbles_32 : decode b_MO_nibbles 32 = .ok (.iload_n 0, 1) := by decide +kernel
theorem d_MO_nibbles_33 : decode b_MO_nibbles 33 = .ok (.sipush 512, 3) := by decide +kernel
theorem d_MO_nibbles_36 : decode b_MO_nibbles 36 = .ok (.if_icmp .ge 7, 3) := by decide +kernel
theorem d_MO_nibbles_39 : decode b_MO_nibbles 39 = .ok (.iconst 2, 1) := by decide +kernel
theorem d_MO_nibbles_40 : decode b_MO_nibbles 40 = .ok (.goto 38, 3) := by decide +kernel
theorem d_MO_nibbles_43 : decode b_MO_nibbles 43 = .ok (.iload_n 0, 1) := by decide +kernel
theorem d_MO_nibbles_44 : decode b_MO_nibbles 44 = .ok (.sipush 4096, 3) := by decide +kernel
theorem d_MO_nibbles_47 : decode b_MO_nibbles 47 = .ok (.if_icmp .lt 14, 3) := by decide +kernel
theorem d_MO_nibbles_50 : decode b_MO_nibbles 50 = .ok (.iload_n 0, 1) := by decide +kernel
theorem d_MO_nibbles_51 : decode b_MO_nibbles 51 = .ok (.sipush 8192, 3) := by decide +kernel
theorem d_MO_nibbles_54 : decode b_MO_nibbles 54 = .ok (.if_icmp .ge 7, 3) := by decide +kernel
theorem d_MO_nibbles_57 : decode b_MO_nibbles 57 = .ok (.iconst 3, 1) := by decide +kernel
theorem d_MO_nibbles_58 : decode b_MO_nibbles 58 = .ok (.goto 20, 3) := by decide +kernel
theorem d_MO_nibbles_61 : decode b_MO_nibbles 61 = .ok (.iload_n 0, 1) := by decide +kernel
theorem d_MO_nibbles_62 : decode b_MO_nibbles 62 = .ok (.ldc 39, 2) := by decide +kernel
theorem d_MO_nibbles_64 : decode b_MO_nibbles 64 = .ok (.if_icmp .lt 13, 3) := by decide +kernel
theorem d_MO_nibbles_67 : decode b_MO_nibbles 67 = .ok (.iload_n 0, 1) := by decide +kernel
theorem d_MO_nibbles_68 : decode b_MO_nibbles 68 = .ok (.ldc 40, 2) := by decide +kernel
theorem d_MO_nibbles_70 : decode b_MO_nibbles 70 = .ok (.if_icmp .ge 7, 3) := by decide +kernel
theorem d_MO_nibbles_73 : decode b_MO_nibbles 73 = .ok (.iconst 4, 1) := by decide +kernel
theorem d_MO_nibbles_74 : decode b_MO_nibbles 74 = .ok (.goto 4, 3) := by decide +kernel
theorem d_MO_nibbles_77 : decode b_MO_nibbles 77 = .ok (.iconst (-1), 1) := by decide +kernel
theorem d_MO_nibbles_78 : decode b_MO_nibbles 78 = .ok (.ireturn, 1) := by decide +kernel
theorem d_MO_begins_0 : decode b_MO_begins 0 = .ok (.iload_n 0, 1) := by decide +kernel
theorem d_MO_begins_1 : decode b_MO_begins 1 = .ok (.invokestatic 41, 3) := by decide +kernel
theorem d_MO_begins_4 : decode b_MO_begins 4 = .ok (.iload_n 1, 1) := by decide +kernel
theorem d_MO_begins_5 : decode b_MO_begins 5 = .ok (.invokestatic 41, 3) := by decide +kernel
theorem d_MO_begins_8 : decode b_MO_begins 8 = .ok (.isub, 1) := by decide +kernel
theorem d_MO_begins_9 : decode b_MO_begins 9 = .ok (.istore_n 2, 1) := by decide +kernel
theorem d_MO_begins_10 : decode b_MO_begins 10 = .ok (.iload_n 2, 1) := by decide +kernel
theorem d_MO_begins_11 : decode b_MO_begins 11 = .ok (.ifCond .lt 16, 3) := by decide +kernel
theorem d_MO_begins_14 : decode b_MO_begins 14 = .ok (.iload_n 0, 1) := by decide +kernel
theorem d_MO_begins_15 : decode b_MO_begins 15 = .ok (.iconst 4, 1) := by decide +kernel
theorem d_MO_begins_16 : decode b_MO_begins 16 = .ok (.iload_n 2, 1) := by decide +kernel
theorem d_MO_begins_17 : decode b_MO_begins 17 = .ok (.imul, 1) := by decide +kernel
theorem d_MO_begins_18 : decode b_MO_begins 18 = .ok (.ishr, 1) := by decide +kernel
theorem d_MO_begins_19 : decode b_MO_begins 19 = .ok (.iload_n 1, 1) := by decide +kernel
theorem d_MO_begins_20 : decode b_MO_begins 20 = .ok (.if_icmp .ne 7, 3) := by decide +kernel
theorem d_MO_begins_23 : decode b_MO_begins 23 = .ok (.iconst 1, 1) := by decide +kernel
theorem d_MO_begins_24 : decode b_MO_begins 24 = .ok (.goto 4, 3) := by decide +kernel
theorem d_MO_begins_27 : decode b_MO_begins 27 = .ok (.iconst 0, 1) := by decide +kernel
theorem d_MO_begins_28 : decode b_MO_begins 28 = .ok (.ireturn, 1) := by decide +kernel
theorem d_MO_behind_0 : decode b_MO_behind 0 = .ok (.iconst 4, 1) := by decide +kernel
theorem d_MO_behind_1 : decode b_MO_behind 1 = .ok (.iload_n 0, 1) := by decide +kernel
theorem d_MO_behind_2 : decode b_MO_behind 2 = .ok (.invokestatic 41, 3) := by decide +kernel
theorem d_MO_behind_5 : decode b_MO_behind 5 = .ok (.iload_n 1, 1) := by decide +kernel
theorem d_MO_behind_6 : decode b_MO_behind 6 = .ok (.invokestatic 41, 3) := by decide +kernel
theorem d_MO_behind_9 : decode b_MO_behind 9 = .ok (.isub, 1) := by decide +kernel
theorem d_MO_behind_10 : decode b_MO_behind 10 = .ok (.imul, 1) := by decide +kernel
theorem d_MO_behind_11 : decode b_MO_behind 11 = .ok (.istore_n 2, 1) := by decide +kernel
theorem d_MO_behind_12 : decode b_MO_behind 12 = .ok (.iload_n 0, 1) := by decide +kernel
theorem d_MO_behind_13 : decode b_MO_behind 13 = .ok (.iload_n 1, 1) := by decide +kernel
theorem d_MO_behind_14 : decode b_MO_behind 14 = .ok (.iload_n 2, 1) := by decide +kernel
theorem d_MO_behind_15 : decode b_MO_behind 15 = .ok (.ishl, 1) := by decide +kernel
theorem d_MO_behind_16 : decode b_MO_behind 16 = .ok (.isub, 1) := by decide +kernel
theorem d_MO_behind_17 : decode b_MO_behind 17 = .ok (.iconst 1, 1) := by decide +kernel
theorem d_MO_behind_18 : decode b_MO_behind 18 = .ok (.iload_n 2, 1) := by decide +kernel
theorem d_MO_behind_19 : decode b_MO_behind 19 = .ok (.ishl, 1) := by decide +kernel
theorem d_MO_behind_20 : decode b_MO_behind 20 = .ok (.iadd, 1) := by decide +kernel
theorem d_MO_behind_21 : decode b_MO_behind 21 = .ok (.ireturn, 1) := by decide +kernel
theorem d_MO_find_0 : decode b_MO_find 0 = .ok (.iconst 0, 1) := by decide +kernel
theorem d_MO_find_1 : decode b_MO_find 1 = .ok (.istore_n 3, 1) := by decide +kernel
theorem d_MO_find_2 : decode b_MO_find 2 = .ok (.iload_n 3, 1) := by decide +kernel
theorem d_MO_find_3 : decode b_MO_find 3 = .ok (.aload_n 0, 1) := by decide +kernel
theorem d_MO_find_4 : decode b_MO_find 4 = .ok (.getfield 16, 3) := by decide +kernel
theorem d_MO_find_7 : decode b_MO_find 7 = .ok (.iload_n 1, 1) := by decide +kernel
theorem d_MO_find_8 : decode b_MO_find 8 = .ok (.iaload, 1) := by decide +kernel
theorem d_MO_find_9 : decode b_MO_find 9 = .ok (.if_icmp .ge 31, 3) := by decide +kernel
theorem d_MO_find_12 : decode b_MO_find 12 = .ok (.aload_n 0, 1) := by decide +kernel
theorem d_MO_find_13 : decode b_MO_find 13 = .ok (.getfield 7, 3) := by decide +kernel
theorem d_MO_find_16 : decode b_MO_find 16 = .ok (.bipush 16, 2) := by decide +kernel
theorem d_MO_find_18 : decode b_MO_find 18 = .ok (.iload_n 1, 1) := by decide +kernel
theorem d_MO_find_19 : decode b_MO_find 19 = .ok (.imul, 1) := by decide +kernel
theorem d_MO_find_20 : decode b_MO_find 20 = .ok (.iload_n 3, 1) := by decide +kernel
theorem d_MO_find_21 : decode b_MO_find 21 = .ok (.iadd, 1) := by decide +kernel
theorem d_MO_find_22 : decode b_MO_find 22 = .ok (.iaload, 1) := by decide +kernel
theorem d_MO_find_23 : decode b_MO_find 23 = .ok (.iload_n 2, 1) := by decide +kernel
theorem d_MO_find_24 : decode b_MO_find 24 = .ok (.if_icmp .ne 10, 3) := by decide +kernel
theorem d_MO_find_27 : decode b_MO_find 27 = .ok (.bipush 16, 2) := by decide +kernel
theorem d_MO_find_29 : decode b_MO_find 29 = .ok (.iload_n 1, 1) := by decide +kernel
theorem d_MO_find_30 : decode b_MO_find 30 = .ok (.imul, 1) := by decide +kernel
theorem d_MO_find_31 : decode b_MO_find 31 = .ok (.iload_n 3, 1) := by decide +kernel
theorem d_MO_find_32 : decode b_MO_find 32 = .ok (.iadd, 1) := by decide +kernel
theorem d_MO_find_33 : decode b_MO_find 33 = .ok (.ireturn, 1) := by decide +kernel
theorem d_MO_find_34 : decode b_MO_find 34 = .ok (.iinc 3 1, 3) := by decide +kernel
theorem d_MO_find_37 : decode b_MO_find 37 = .ok (.goto (-35), 3) := by decide +kernel
theorem d_MO_find_40 : decode b_MO_find 40 = .ok (.iconst (-1), 1) := by decide +kernel
theorem d_MO_find_41 : decode b_MO_find 41 = .ok (.ireturn, 1) := by decide +kernel
theorem d_MO_copy_0 : decode b_MO_copy 0 = .ok (.aload_n 0, 1) := by decide +kernel
theorem d_MO_copy_1 : decode b_MO_copy 1 = .ok (.getfield 16, 3) := by decide +kernel
theorem d_MO_copy_4 : decode b_MO_copy 4 = .ok (.iload_n 2, 1) := by decide +kernel
theorem d_MO_copy_5 : decode b_MO_copy 5 = .ok (.aload_n 0, 1) := by decide +kernel
theorem d_MO_copy_6 : decode b_MO_copy 6 = .ok (.getfield 16, 3) := by decide +kernel
theorem d_MO_copy_9 : decode b_MO_copy 9 = .ok (.iload_n 1, 1) := by decide +kernel
theorem d_MO_copy_10 : decode b_MO_copy 10 = .ok (.iaload, 1) := by decide +kernel
theorem d_MO_copy_11 : decode b_MO_copy 11 = .ok (.iastore, 1) := by decide +kernel
theorem d_MO_copy_12 : decode b_MO_copy 12 = .ok (.aload_n 0, 1) := by decide +kernel
theorem d_MO_copy_13 : decode b_MO_copy 13 = .ok (.getfield 26, 3) := by decide +kernel
theorem d_MO_copy_16 : decode b_MO_copy 16 = .ok (.iload_n 2, 1) := by decide +kernel
theorem d_MO_copy_17 : decode b_MO_copy 17 = .ok (.aload_n 0, 1) := by decide +kernel
theorem d_MO_copy_18 : decode b_MO_copy 18 = .ok (.getfield 26, 3) := by decide +kernel
theorem d_MO_copy_21 : decode b_MO_copy 21 = .ok (.iload_n 1, 1) := by decide +kernel
theorem d_MO_copy_22 : decode b_MO_copy 22 = .ok (.iaload, 1) := by decide +kernel
theorem d_MO_copy_23 : decode b_MO_copy 23 = .ok (.iastore, 1) := by decide +kernel
theorem d_MO_copy_24 : decode b_MO_copy 24 = .ok (.iconst 0, 1) := by decide +kernel
theorem d_MO_copy_25 : decode b_MO_copy 25 = .ok (.istore_n 3, 1) := by decide +kernel
theorem d_MO_copy_26 : decode b_MO_copy 26 = .ok (.iload_n 3, 1) := by decide +kernel
theorem d_MO_copy_27 : decode b_MO_copy 27 = .ok (.bipush 16, 2) := by decide +kernel
theorem d_MO_copy_29 : decode b_MO_copy 29 = .ok (.if_icmp .ge 97, 3) := by decide +kernel
theorem d_MO_copy_32 : decode b_MO_copy 32 = .ok (.aload_n 0, 1) := by decide +kernel
theorem d_MO_copy_33 : decode b_MO_copy 33 = .ok (.getfield 7, 3) := by decide +kernel
theorem d_MO_copy_36 : decode b_MO_copy 36 = .ok (.bipush 16, 2) := by decide +kernel
theorem d_MO_copy_38 : decode b_MO_copy 38 = .ok (.iload_n 2, 1) := by decide +kernel
theorem d_MO_copy_39 : decode b_MO_copy 39 = .ok (.imul, 1) := by decide +kernel
theorem d_MO_copy_40 : decode b_MO_copy 40 = .ok (.iload_n 3, 1) := by decide +kernel
theorem d_MO_copy_41 : decode b_MO_copy 41 = .ok (.iadd, 1) := by decide +kernel
theorem d_MO_copy_42 : decode b_MO_copy 42 = .ok (.aload_n 0, 1) := by decide +kernel
theorem d_MO_copy_43 : decode b_MO_copy 43 = .ok (.getfield 7, 3) := by decide +kernel
theorem d_MO_copy_46 : decode b_MO_copy 46 = .ok (.bipush 16, 2) := by decide +kernel
theorem d_MO_copy_48 : decode b_MO_copy 48 = .ok (.iload_n 1, 1) := by decide +kernel
theorem d_MO_copy_49 : decode b_MO_copy 49 = .ok (.imul, 1) := by decide +kernel
theorem d_MO_copy_50 : decode b_MO_copy 50 = .ok (.iload_n 3, 1) := by decide +kernel
theorem d_MO_copy_51 : decode b_MO_copy 51 = .ok (.iadd, 1) := by decide +kernel
theorem d_MO_copy_52 : decode b_MO_copy 52 = .ok (.iaload, 1) := by decide +kernel
theorem d_MO_copy_53 : decode b_MO_copy 53 = .ok (.iastore, 1) := by decide +kernel
theorem d_MO_copy_54 : decode b_MO_copy 54 = .ok (.aload_n 0, 1) := by decide +kernel
theorem d_MO_copy_55 : decode b_MO_copy 55 = .ok (.getfield 13, 3) := by decide +kernel
theorem d_MO_copy_58 : decode b_MO_copy 58 = .ok (.bipush 16, 2) := by decide +kernel
theorem d_MO_copy_60 : decode b_MO_copy 60 = .ok (.iload_n 2, 1) := by decide +kernel
theorem d_MO_copy_61 : decode b_MO_copy 61 = .ok (.imul, 1) := by decide +kernel
theorem d_MO_copy_62 : decode b_MO_copy 62 = .ok (.iload_n 3, 1) := by decide +kernel
theorem d_MO_copy_63 : decode b_MO_copy 63 = .ok (.iadd, 1) := by decide +kernel
theorem d_MO_copy_64 : decode b_MO_copy 64 = .ok (.aload_n 0, 1) := by decide +kernel
theorem d_MO_copy_65 : decode b_MO_copy 65 = .ok (.getfield 13, 3) := by decide +kernel
theorem d_MO_copy_68 : decode b_MO_copy 68 = .ok (.bipush 16, 2) := by decide +kernel
theorem d_MO_copy_70 : decode b_MO_copy 70 = .ok (.iload_n 1, 1) := by decide +kernel
theorem d_MO_copy_71 : decode b_MO_copy 71 = .ok (.imul, 1) := by decide +kernel
theorem d_MO_copy_72 : decode b_MO_copy 72 = .ok (.iload_n 3, 1) := by decide +kernel
theorem d_MO_copy_73 : decode b_MO_copy 73 = .ok (.iadd, 1) := by decide +kernel
theorem d_MO_copy_74 : decode b_MO_copy 74 = .ok (.iaload, 1) := by decide +kernel
theorem d_MO_copy_75 : decode b_MO_copy 75 = .ok (.iastore, 1) := by decide +kernel
theorem d_MO_copy_76 : decode b_MO_copy 76 = .ok (.aload_n 0, 1) := by decide +kernel
theorem d_MO_copy_77 : decode b_MO_copy 77 = .ok (.getfield 19, 3) := by decide +kernel
theorem d_MO_copy_80 : decode b_MO_copy 80 = .ok (.bipush 16, 2) := by decide +kernel
theorem d_MO_copy_82 : decode b_MO_copy 82 = .ok (.iload_n 2, 1) := by decide +kernel
theorem d_MO_copy_83 : decode b_MO_copy 83 = .ok (.imul, 1) := by decide +kernel
theorem d_MO_copy_84 : decode b_MO_copy 84 = .ok (.iload_n 3, 1) := by decide +kernel
theorem d_MO_copy_85 : decode b_MO_copy 85 = .ok (.iadd, 1) := by decide +kernel
theorem d_MO_copy_86 : decode b_MO_copy 86 = .ok (.aload_n 0, 1) := by decide +kernel
theorem d_MO_copy_87 : decode b_MO_copy 87 = .ok (.getfield 19, 3) := by decide +kernel
theorem d_MO_copy_90 : decode b_MO_copy 90 = .ok (.bipush 16, 2) := by decide +kernel
theorem d_MO_copy_92 : decode b_MO_copy 92 = .ok (.iload_n 1, 1) := by decide +kernel
theorem d_MO_copy_93 : decode b_MO_copy 93 = .ok (.imul, 1) := by decide +kernel
theorem d_MO_copy_94 : decode b_MO_copy 94 = .ok (.iload_n 3, 1) := by decide +kernel
theorem d_MO_copy_95 : decode b_MO_copy 95 = .ok (.iadd, 1) := by decide +kernel
theorem d_MO_copy_96 : decode b_MO_copy 96 = .ok (.iaload, 1) := by decide +kernel
theorem d_MO_copy_97 : decode b_MO_copy 97 = .ok (.iastore, 1) := by decide +kernel
theorem d_MO_copy_98 : decode b_MO_copy 98 = .ok (.aload_n 0, 1) := by decide +kernel
theorem d_MO_copy_99 : decode b_MO_copy 99 = .ok (.getfield 22, 3) := by decide +kernel
theorem d_MO_copy_102 : decode b_MO_copy 102 = .ok (.bipush 16, 2) := by decide +kernel
theorem d_MO_copy_104 : decode b_MO_copy 104 = .ok (.iload_n 2, 1) := by decide +kernel
theorem d_MO_copy_105 : decode b_MO_copy 105 = .ok (.imul, 1) := by decide +kernel
theorem d_MO_copy_106 : decode b_MO_copy 106 = .ok (.iload_n 3, 1) := by decide +kernel
theorem d_MO_copy_107 : decode b_MO_copy 107 = .ok (.iadd, 1) := by decide +kernel
theorem d_MO_copy_108 : decode b_MO_copy 108 = .ok (.aload_n 0, 1) := by decide +kernel
theorem d_MO_copy_109 : decode b_MO_copy 109 = .ok (.getfield 22, 3) := by decide +kernel
theorem d_MO_copy_112 : decode b_MO_copy 112 = .ok (.bipush 16, 2) := by decide +kernel
theorem d_MO_copy_114 : decode b_MO_copy 114 = .ok (.iload_n 1, 1) := by decide +kernel
theorem d_MO_copy_115 : decode b_MO_copy 115 = .ok (.imul, 1) := by decide +kernel
theorem d_MO_copy_116 : decode b_MO_copy 116 = .ok (.iload_n 3, 1) := by decide +kernel
theorem d_MO_copy_117 : decode b_MO_copy 117 = .ok (.iadd, 1) := by decide +kernel
theorem d_MO_copy_118 : decode b_MO_copy 118 = .ok (.laload, 1) := by decide +kernel
theorem d_MO_copy_119 : decode b_MO_copy 119 = .ok (.lastore, 1) := by decide +kernel
theorem d_MO_copy_120 : decode b_MO_copy 120 = .ok (.iinc 3 1, 3) := by decide +kernel
theorem d_MO_copy_123 : decode b_MO_copy 123 = .ok (.goto (-97), 3) := by decide +kernel
theorem d_MO_copy_126 : decode b_MO_copy 126 = .ok (.return_, 1) := by decide +kernel
theorem d_MO_put_0 : decode b_MO_put 0 = .ok (.iload_n 1, 1) := by decide +kernel
theorem d_MO_put_1 : decode b_MO_put 1 = .ok (.invokestatic 41, 3) := by decide +kernel
theorem d_MO_put_4 : decode b_MO_put 4 = .ok (.ifCond .ge 5, 3) := by decide +kernel
theorem d_MO_put_7 : decode b_MO_put 7 = .ok (.iconst 0, 1) := by decide +kernel
theorem d_MO_put_8 : decode b_MO_put 8 = .ok (.ireturn, 1) := by decide +kernel
theorem d_MO_put_9 : decode b_MO_put 9 = .ok (.aload_n 0, 1) := by decide +kernel
theorem d_MO_put_10 : decode b_MO_put 10 = .ok (.iconst 0, 1) := by decide +kernel
theorem d_MO_put_11 : decode b_MO_put 11 = .ok (.iload_n 1, 1) := by decide +kernel
theorem d_MO_put_12 : decode b_MO_put 12 = .ok (.invokevirtual 45, 3) := by decide +kernel
theorem d_MO_put_15 : decode b_MO_put 15 = .ok (.istore_n 3, 1) := by decide +kernel
theorem d_MO_put_16 : decode b_MO_put 16 = .ok (.iload_n 3, 1) := by decide +kernel
theorem d_MO_put_17 : decode b_MO_put 17 = .ok (.ifCond .ge 7, 3) := by decide +kernel
theorem d_MO_put_20 : decode b_MO_put 20 = .ok (.iconst 0, 1) := by decide +kernel
theorem d_MO_put_21 : decode b_MO_put 21 = .ok (.goto 9, 3) := by decide +kernel
theorem d_MO_put_24 : decode b_MO_put 24 = .ok (.aload_n 0, 1) := by decide +kernel
theorem d_MO_put_25 : decode b_MO_put 25 = .ok (.getfield 13, 3) := by decide +kernel
theorem d_MO_put_28 : decode b_MO_put 28 = .ok (.iload_n 3, 1) := by decide +kernel
theorem d_MO_put_29 : decode b_MO_put 29 = .ok (.iaload, 1) := by decide +kernel
theorem d_MO_put_30 : decode b_MO_put 30 = .ok (.istore 4, 2) := by decide +kernel
theorem d_MO_put_32 : decode b_MO_put 32 = .ok (.iload_n 3, 1) := by decide +kernel
theorem d_MO_put_33 : decode b_MO_put 33 = .ok (.ifCond .lt 54, 3) := by decide +kernel
theorem d_MO_put_36 : decode b_MO_put 36 = .ok (.iload_n 2, 1) := by decide +kernel
theorem d_MO_put_37 : decode b_MO_put 37 = .ok (.ifCond .ne 50, 3) := by decide +kernel
theorem d_MO_put_40 : decode b_MO_put 40 = .ok (.aload_n 0, 1) := by decide +kernel
theorem d_MO_put_41 : decode b_MO_put 41 = .ok (.getfield 16, 3) := by decide +kernel
theorem d_MO_put_44 : decode b_MO_put 44 = .ok (.iconst 0, 1) := by decide +kernel
theorem d_MO_put_45 : decode b_MO_put 45 = .ok (.dup2, 1) := by decide +kernel
theorem d_MO_put_46 : decode b_MO_put 46 = .ok (.iaload, 1) := by decide +kernel
theorem d_MO_put_47 : decode b_MO_put 47 = .ok (.iconst 1, 1) := by decide +kernel
theorem d_MO_put_48 : decode b_MO_put 48 = .ok (.isub, 1) := by decide +kernel
theorem d_MO_put_49 : decode b_MO_put 49 = .ok (.iastore, 1) := by decide +kernel
theorem d_MO_put_50 : decode b_MO_put 50 = .ok (.aload_n 0, 1) := by decide +kernel
theorem d_MO_put_51 : decode b_MO_put 51 = .ok (.getfield 7, 3) := by decide +kernel
theorem d_MO_put_54 : decode b_MO_put 54 = .ok (.iload_n 3, 1) := by decide +kernel
theorem d_MO_put_55 : decode b_MO_put 55 = .ok (.aload_n 0, 1) := by decide +kernel
theorem d_MO_put_56 : decode b_MO_put 56 = .ok (.getfield 7, 3) := by decide +kernel
theorem d_MO_put_59 : decode b_MO_put 59 = .ok (.aload_n 0, 1) := by decide +kernel
theorem d_MO_put_60 : decode b_MO_put 60 = .ok (.getfield 16, 3) := by decide +kernel
theorem d_MO_put_63 : decode b_MO_put 63 = .ok (.iconst 0, 1) := by decide +kernel
theorem d_MO_put_64 : decode b_MO_put 64 = .ok (.iaload, 1) := by decide +kernel
theorem d_MO_put_65 : decode b_MO_put 65 = .ok (.iaload, 1) := by decide +kernel
theorem d_MO_put_66 : decode b_MO_put 66 = .ok (.iastore, 1) := by decide +kernel
theorem d_MO_put_67 : decode b_MO_put 67 = .ok (.aload_n 0, 1) := by decide +kernel
theorem d_MO_put_68 : decode b_MO_put 68 = .ok (.getfield 13, 3) := by decide +kernel
theorem d_MO_put_71 : decode b_MO_put 71 = .ok (.iload_n 3, 1) := by decide +kernel
theorem d_MO_put_72 : decode b_MO_put 72 = .ok (.aload_n 0, 1) := by decide +kernel
theorem d_MO_put_73 : decode b_MO_put 73 = .ok (.getfield 13, 3) := by decide +kernel
theorem d_MO_put_76 : decode b_MO_put 76 = .ok (.aload_n 0, 1) := by decide +kernel
theorem d_MO_put_77 : decode b_MO_put 77 = .ok (.getfield 16, 3) := by decide +kernel
theorem d_MO_put_80 : decode b_MO_put 80 = .ok (.iconst 0, 1) := by decide +kernel
theorem d_MO_put_81 : decode b_MO_put 81 = .ok (.iaload, 1) := by decide +kernel
theorem d_MO_put_82 : decode b_MO_put 82 = .ok (.iaload, 1) := by decide +kernel
theorem d_MO_put_83 : decode b_MO_put 83 = .ok (.iastore, 1) := by decide +kernel
theorem d_MO_put_84 : decode b_MO_put 84 = .ok (.goto 66, 3) := by decide +kernel
theorem d_MO_put_87 : decode b_MO_put 87 = .ok (.iload_n 3, 1) := by decide +kernel
theorem d_MO_put_88 : decode b_MO_put 88 = .ok (.ifCond .lt 13, 3) := by decide +kernel
theorem d_MO_put_91 : decode b_MO_put 91 = .ok (.aload_n 0, 1) := by decide +kernel
theorem d_MO_put_92 : decode b_MO_put 92 = .ok (.getfield 13, 3) := by decide +kernel
theorem d_MO_put_95 : decode b_MO_put 95 = .ok (.iload_n 3, 1) := by decide +kernel
theorem d_MO_put_96 : decode b_MO_put 96 = .ok (.iload_n 2, 1) := by decide +kernel
theorem d_MO_put_97 : decode b_MO_put 97 = .ok (.iastore, 1) := by decide +kernel
theorem d_MO_put_98 : decode b_MO_put 98 = .ok (.goto 52, 3) := by decide +kernel
theorem d_MO_put_101 : decode b_MO_put 101 = .ok (.iload_n 2, 1) := by decide +kernel
theorem d_MO_put_102 : decode b_MO_put 102 = .ok (.ifCond .eq 48, 3) := by decide +kernel
theorem d_MO_put_105 : decode b_MO_put 105 = .ok (.aload_n 0, 1) := by decide +kernel
theorem d_MO_put_106 : decode b_MO_put 106 = .ok (.getfield 16, 3) := by decide +kernel
theorem d_MO_put_109 : decode b_MO_put 109 = .ok (.iconst 0, 1) := by decide +kernel
theorem d_MO_put_110 : decode b_MO_put 110 = .ok (.iaload, 1) := by decide +kernel
theorem d_MO_put_111 : decode b_MO_put 111 = .ok (.bipush 16, 2) := by decide +kernel
theorem d_MO_put_113 : decode b_MO_put 113 = .ok (.if_icmp .ge 37, 3) := by decide +kernel
theorem d_MO_put_116 : decode b_MO_put 116 = .ok (.aload_n 0, 1) := by decide +kernel
theorem d_MO_put_117 : decode b_MO_put 117 = .ok (.getfield 7, 3) := by decide +kernel
theorem d_MO_put_120 : decode b_MO_put 120 = .ok (.aload_n 0, 1) := by decide +kernel
theorem d_MO_put_121 : decode b_MO_put 121 = .ok (.getfield 16, 3) := by decide +kernel
theorem d_MO_put_124 : decode b_MO_put 124 = .ok (.iconst 0, 1) := by decide +kernel
theorem d_MO_put_125 : decode b_MO_put 125 = .ok (.iaload, 1) := by decide +kernel
theorem d_MO_put_126 : decode b_MO_put 126 = .ok (.iload_n 1, 1) := by decide +kernel
theorem d_MO_put_127 : decode b_MO_put 127 = .ok (.iastore, 1) := by decide +kernel
theorem d_MO_put_128 : decode b_MO_put 128 = .ok (.aload_n 0, 1) := by decide +kernel
theorem d_MO_put_129 : decode b_MO_put 129 = .ok (.getfield 13, 3) := by decide +kernel
theorem d_MO_put_132 : decode b_MO_put 132 = .ok (.aload_n 0, 1) := by decide +kernel
theorem d_MO_put_133 : decode b_MO_put 133 = .ok (.getfield 16, 3) := by decide +kernel
theorem d_MO_put_136 : decode b_MO_put 136 = .ok (.iconst 0, 1) := by decide +kernel
theorem d_MO_put_137 : decode b_MO_put 137 = .ok (.iaload, 1) := by decide +kernel
theorem d_MO_put_138 : decode b_MO_put 138 = .ok (.iload_n 2, 1) := by decide +kernel
theorem d_MO_put_139 : decode b_MO_put 139 = .ok (.iastore, 1) := by decide +kernel
theorem d_MO_put_140 : decode b_MO_put 140 = .ok (.aload_n 0, 1) := by decide +kernel
theorem d_MO_put_141 : decode b_MO_put 141 = .ok (.getfield 16, 3) := by decide +kernel
theorem d_MO_put_144 : decode b_MO_put 144 = .ok (.iconst 0, 1) := by decide +kernel
theorem d_MO_put_145 : decode b_MO_put 145 = .ok (.dup2, 1) := by decide +kernel
theorem d_MO_put_146 : decode b_MO_put 146 = .ok (.iaload, 1) := by decide +kernel
theorem d_MO_put_147 : decode b_MO_put 147 = .ok (.iconst 1, 1) := by decide +kernel
theorem d_MO_put_148 : decode b_MO_put 148 = .ok (.iadd, 1) := by decide +kernel
theorem d_MO_put_149 : decode b_MO_put 149 = .ok (.iastore, 1) := by decide +kernel
theorem d_MO_put_150 : decode b_MO_put 150 = .ok (.iload 4, 2) := by decide +kernel
theorem d_MO_put_152 : decode b_MO_put 152 = .ok (.ireturn, 1) := by decide +kernel
theorem d_MO_valueIn_0 : decode b_MO_valueIn 0 = .ok (.aload_n 0, 1) := by decide +kernel
theorem d_MO_valueIn_1 : decode b_MO_valueIn 1 = .ok (.iload_n 1, 1) := by decide +kernel
theorem d_MO_valueIn_2 : decode b_MO_valueIn 2 = .ok (.iload_n 2, 1) := by decide +kernel
theorem d_MO_valueIn_3 : decode b_MO_valueIn 3 = .ok (.invokevirtual 45, 3) := by decide +kernel
theorem d_MO_valueIn_6 : decode b_MO_valueIn 6 = .ok (.istore_n 3, 1) := by decide +kernel
theorem d_MO_valueIn_7 : decode b_MO_valueIn 7 = .ok (.iload_n 3, 1) := by decide +kernel
theorem d_MO_valueIn_8 : decode b_MO_valueIn 8 = .ok (.ifCond .ge 7, 3) := by decide +kernel
theorem d_MO_valueIn_11 : decode b_MO_valueIn 11 = .ok (.iconst 0, 1) := by decide +kernel
theorem d_MO_valueIn_12 : decode b_MO_valueIn 12 = .ok (.goto 9, 3) := by decide +kernel
theorem d_MO_valueIn_15 : decode b_MO_valueIn 15 = .ok (.aload_n 0, 1) := by decide +kernel
theorem d_MO_valueIn_16 : decode b_MO_valueIn 16 = .ok (.getfield 13, 3) := by decide +kernel
theorem d_MO_valueIn_19 : decode b_MO_valueIn 19 = .ok (.iload_n 3, 1) := by decide +kernel
theorem d_MO_valueIn_20 : decode b_MO_valueIn 20 = .ok (.iaload, 1) := by decide +kernel
theorem d_MO_valueIn_21 : decode b_MO_valueIn 21 = .ok (.ireturn, 1) := by decide +kernel
theorem d_MO_get_0 : decode b_MO_get 0 = .ok (.aload_n 0, 1) := by decide +kernel
theorem d_MO_get_1 : decode b_MO_get 1 = .ok (.iconst 0, 1) := by decide +kernel
theorem d_MO_get_2 : decode b_MO_get 2 = .ok (.iload_n 1, 1) := by decide +kernel
theorem d_MO_get_3 : decode b_MO_get 3 = .ok (.invokevirtual 49, 3) := by decide +kernel
theorem d_MO_get_6 : decode b_MO_get 6 = .ok (.ireturn, 1) := by decide +kernel
theorem d_MO_size_0 : decode b_MO_size 0 = .ok (.aload_n 0, 1) := by decide +kernel
theorem d_MO_size_1 : decode b_MO_size 1 = .ok (.getfield 16, 3) := by decide +kernel
theorem d_MO_size_4 : decode b_MO_size 4 = .ok (.iconst 0, 1) := by decide +kernel
theorem d_MO_size_5 : decode b_MO_size 5 = .ok (.iaload, 1) := by decide +kernel
theorem d_MO_size_6 : decode b_MO_size 6 = .ok (.ireturn, 1) := by decide +kernel
theorem d_MO_members_0 : decode b_MO_members 0 = .ok (.iconst 0, 1) := by decide +kernel
theorem d_MO_members_1 : decode b_MO_members 1 = .ok (.istore_n 3, 1) := by decide +kernel
theorem d_MO_members_2 : decode b_MO_members 2 = .ok (.bipush 16, 2) := by decide +kernel
theorem d_MO_members_4 : decode b_MO_members 4 = .ok (.iload_n 1, 1) := by decide +kernel
theorem d_MO_members_5 : decode b_MO_members 5 = .ok (.imul, 1) := by decide +kernel
theorem d_MO_members_6 : decode b_MO_members 6 = .ok (.istore 4, 2) := by decide +kernel
theorem d_MO_members_8 : decode b_MO_members 8 = .ok (.iload 4, 2) := by decide +kernel
theorem d_MO_members_10 : decode b_MO_members 10 = .ok (.bipush 16, 2) := by decide +kernel
theorem d_MO_members_12 : decode b_MO_members 12 = .ok (.iload_n 1, 1) := by decide +kernel
theorem d_MO_members_13 : decode b_MO_members 13 = .ok (.imul, 1) := by decide +kernel
theorem d_MO_members_14 : decode b_MO_members 14 = .ok (.aload_n 0, 1) := by decide +kernel
theorem d_MO_members_15 : decode b_MO_members 15 = .ok (.getfield 16, 3) := by decide +kernel
theorem d_MO_members_18 : decode b_MO_members 18 = .ok (.iload_n 1, 1) := by decide +kernel
theorem d_MO_members_19 : decode b_MO_members 19 = .ok (.iaload, 1) := by decide +kernel
theorem d_MO_members_20 : decode b_MO_members 20 = .ok (.iadd, 1) := by decide +kernel
theorem d_MO_members_21 : decode b_MO_members 21 = .ok (.if_icmp .ge 31, 3) := by decide +kernel
theorem d_MO_members_24 : decode b_MO_members 24 = .ok (.aload_n 0, 1) := by decide +kernel
theorem d_MO_members_25 : decode b_MO_members 25 = .ok (.getfield 7, 3) := by decide +kernel
theorem d_MO_members_28 : decode b_MO_members 28 = .ok (.iload 4, 2) := by decide +kernel
theorem d_MO_members_30 : decode b_MO_members 30 = .ok (.iaload, 1) := by decide +kernel
theorem d_MO_members_31 : decode b_MO_members 31 = .ok (.iload_n 2, 1) := by decide +kernel
theorem d_MO_members_32 : decode b_MO_members 32 = .ok (.invokestatic 52, 3) := by decide +kernel
theorem d_MO_members_35 : decode b_MO_members 35 = .ok (.ifCond .eq 9, 3) := by decide +kernel
theorem d_MO_members_38 : decode b_MO_members 38 = .ok (.iload_n 3, 1) := by decide +kernel
theorem d_MO_members_39 : decode b_MO_members 39 = .ok (.iconst 1, 1) := by decide +kernel
theorem d_MO_members_40 : decode b_MO_members 40 = .ok (.iadd, 1) := by decide +kernel
theorem d_MO_members_41 : decode b_MO_members 41 = .ok (.goto 4, 3) := by decide +kernel
theorem d_MO_members_44 : decode b_MO_members 44 = .ok (.iload_n 3, 1) := by decide +kernel
theorem d_MO_members_45 : decode b_MO_members 45 = .ok (.istore_n 3, 1) := by decide +kernel
theorem d_MO_members_46 : decode b_MO_members 46 = .ok (.iinc 4 1, 3) := by decide +kernel
theorem d_MO_members_49 : decode b_MO_members 49 = .ok (.goto (-41), 3) := by decide +kernel
theorem d_MO_members_52 : decode b_MO_members 52 = .ok (.iload_n 3, 1) := by decide +kernel
theorem d_MO_members_53 : decode b_MO_members 53 = .ok (.ireturn, 1) := by decide +kernel
theorem d_MO_member_0 : decode b_MO_member 0 = .ok (.bipush 16, 2) := by decide +kernel
theorem d_MO_member_2 : decode b_MO_member 2 = .ok (.iload_n 1, 1) := by decide +kernel
theorem d_MO_member_3 : decode b_MO_member 3 = .ok (.imul, 1) := by decide +kernel
theorem d_MO_member_4 : decode b_MO_member 4 = .ok (.istore_n 3, 1) := by decide +kernel
theorem d_MO_member_5 : decode b_MO_member 5 = .ok (.iload_n 3, 1) := by decide +kernel
theorem d_MO_member_6 : decode b_MO_member 6 = .ok (.bipush 16, 2) := by decide +kernel
theorem d_MO_member_8 : decode b_MO_member 8 = .ok (.iload_n 1, 1) := by decide +kernel
theorem d_MO_member_9 : decode b_MO_member 9 = .ok (.imul, 1) := by decide +kernel
theorem d_MO_member_10 : decode b_MO_member 10 = .ok (.aload_n 0, 1) := by decide +kernel
theorem d_MO_member_11 : decode b_MO_member 11 = .ok (.getfield 16, 3) := by decide +kernel
theorem d_MO_member_14 : decode b_MO_member 14 = .ok (.iload_n 1, 1) := by decide +kernel
theorem d_MO_member_15 : decode b_MO_member 15 = .ok (.iaload, 1) := by decide +kernel
theorem d_MO_member_16 : decode b_MO_member 16 = .ok (.iadd, 1) := by decide +kernel
theorem d_MO_member_17 : decode b_MO_member 17 = .ok (.if_icmp .ge 24, 3) := by decide +kernel
theorem d_MO_member_20 : decode b_MO_member 20 = .ok (.aload_n 0, 1) := by decide +kernel
theorem d_MO_member_21 : decode b_MO_member 21 = .ok (.getfield 7, 3) := by decide +kernel
theorem d_MO_member_24 : decode b_MO_member 24 = .ok (.iload_n 3, 1) := by decide +kernel
theorem d_MO_member_25 : decode b_MO_member 25 = .ok (.iaload, 1) := by decide +kernel
theorem d_MO_member_26 : decode b_MO_member 26 = .ok (.iload_n 2, 1) := by decide +kernel
theorem d_MO_member_27 : decode b_MO_member 27 = .ok (.invokestatic 52, 3) := by decide +kernel
theorem d_MO_member_30 : decode b_MO_member 30 = .ok (.ifCond .eq 5, 3) := by decide +kernel
theorem d_MO_member_33 : decode b_MO_member 33 = .ok (.iload_n 3, 1) := by decide +kernel
theorem d_MO_member_34 : decode b_MO_member 34 = .ok (.ireturn, 1) := by decide +kernel
theorem d_MO_member_35 : decode b_MO_member 35 = .ok (.iinc 3 1, 3) := by decide +kernel
theorem d_MO_member_38 : decode b_MO_member 38 = .ok (.goto (-33), 3) := by decide +kernel
theorem d_MO_member_41 : decode b_MO_member 41 = .ok (.iconst (-1), 1) := by decide +kernel
theorem d_MO_member_42 : decode b_MO_member 42 = .ok (.ireturn, 1) := by decide +kernel
theorem d_MO_common_0 : decode b_MO_common 0 = .ok (.aload_n 0, 1) := by decide +kernel
theorem d_MO_common_1 : decode b_MO_common 1 = .ok (.iload_n 1, 1) := by decide +kernel
theorem d_MO_common_2 : decode b_MO_common 2 = .ok (.iload_n 2, 1) := by decide +kernel
theorem d_MO_common_3 : decode b_MO_common 3 = .ok (.invokevirtual 56, 3) := by decide +kernel
theorem d_MO_common_6 : decode b_MO_common 6 = .ok (.istore_n 3, 1) := by decide +kernel
theorem d_MO_common_7 : decode b_MO_common 7 = .ok (.aload_n 0, 1) := by decide +kernel
theorem d_MO_common_8 : decode b_MO_common 8 = .ok (.getfield 7, 3) := by decide +kernel
theorem d_MO_common_11 : decode b_MO_common 11 = .ok (.aload_n 0, 1) := by decide +kernel
theorem d_MO_common_12 : decode b_MO_common 12 = .ok (.iload_n 1, 1) := by decide +kernel
theorem d_MO_common_13 : decode b_MO_common 13 = .ok (.iload_n 2, 1) := by decide +kernel
theorem d_MO_common_14 : decode b_MO_common 14 = .ok (.invokevirtual 59, 3) := by decide +kernel
theorem d_MO_common_17 : decode b_MO_common 17 = .ok (.iaload, 1) := by decide +kernel
theorem d_MO_common_18 : decode b_MO_common 18 = .ok (.istore 4, 2) := by decide +kernel
theorem d_MO_common_20 : decode b_MO_common 20 = .ok (.iload_n 2, 1) := by decide +kernel
theorem d_MO_common_21 : decode b_MO_common 21 = .ok (.istore 5, 2) := by decide +kernel
theorem d_MO_common_23 : decode b_MO_common 23 = .ok (.iload 4, 2) := by decide +kernel
theorem d_MO_common_25 : decode b_MO_common 25 = .ok (.invokestatic 41, 3) := by decide +kernel
theorem d_MO_common_28 : decode b_MO_common 28 = .ok (.iload_n 2, 1) := by decide +kernel
theorem d_MO_common_29 : decode b_MO_common 29 = .ok (.invokestatic 41, 3) := by decide +kernel
theorem d_MO_common_32 : decode b_MO_common 32 = .ok (.isub, 1) := by decide +kernel
theorem d_MO_common_33 : decode b_MO_common 33 = .ok (.istore 6, 2) := by decide +kernel
theorem d_MO_common_35 : decode b_MO_common 35 = .ok (.iload 6, 2) := by decide +kernel
theorem d_MO_common_37 : decode b_MO_common 37 = .ok (.ifCond .lt 42, 3) := by decide +kernel
theorem d_MO_common_40 : decode b_MO_common 40 = .ok (.iload 4, 2) := by decide +kernel
theorem d_MO_common_42 : decode b_MO_common 42 = .ok (.iconst 4, 1) := by decide +kernel
theorem d_MO_common_43 : decode b_MO_common 43 = .ok (.iload 6, 2) := by decide +kernel
theorem d_MO_common_45 : decode b_MO_common 45 = .ok (.imul, 1) := by decide +kernel
theorem d_MO_common_46 : decode b_MO_common 46 = .ok (.ishr, 1) := by decide +kernel
theorem d_MO_common_47 : decode b_MO_common 47 = .ok (.istore 7, 2) := by decide +kernel
theorem d_MO_common_49 : decode b_MO_common 49 = .ok (.aload_n 0, 1) := by decide +kernel
theorem d_MO_common_50 : decode b_MO_common 50 = .ok (.iload_n 1, 1) := by decide +kernel
theorem d_MO_common_51 : decode b_MO_common 51 = .ok (.iload 7, 2) := by decide +kernel
theorem d_MO_common_53 : decode b_MO_common 53 = .ok (.invokevirtual 56, 3) := by decide +kernel
theorem d_MO_common_56 : decode b_MO_common 56 = .ok (.istore 8, 2) := by decide +kernel
theorem d_MO_common_58 : decode b_MO_common 58 = .ok (.iload 8, 2) := by decide +kernel
theorem d_MO_common_60 : decode b_MO_common 60 = .ok (.iload_n 3, 1) := by decide +kernel
theorem d_MO_common_61 : decode b_MO_common 61 = .ok (.if_icmp .ne 8, 3) := by decide +kernel
theorem d_MO_common_64 : decode b_MO_common 64 = .ok (.iload 7, 2) := by decide +kernel
theorem d_MO_common_66 : decode b_MO_common 66 = .ok (.goto 5, 3) := by decide +kernel
theorem d_MO_common_69 : decode b_MO_common 69 = .ok (.iload 5, 2) := by decide +kernel
theorem d_MO_common_71 : decode b_MO_common 71 = .ok (.istore 5, 2) := by decide +kernel
theorem d_MO_common_73 : decode b_MO_common 73 = .ok (.iinc 6 (-1), 3) := by decide +kernel
theorem d_MO_common_76 : decode b_MO_common 76 = .ok (.goto (-41), 3) := by decide +kernel
theorem d_MO_common_79 : decode b_MO_common 79 = .ok (.iload 5, 2) := by decide +kernel
theorem d_MO_common_81 : decode b_MO_common 81 = .ok (.ireturn, 1) := by decide +kernel
theorem d_MO_isBranch_0 : decode b_MO_isBranch 0 = .ok (.aload_n 0, 1) := by decide +kernel
theorem d_MO_isBranch_1 : decode b_MO_isBranch 1 = .ok (.iload_n 1, 1) := by decide +kernel
theorem d_MO_isBranch_2 : decode b_MO_isBranch 2 = .ok (.iload_n 2, 1) := by decide +kernel
theorem d_MO_isBranch_3 : decode b_MO_isBranch 3 = .ok (.invokevirtual 56, 3) := by decide +kernel
theorem d_MO_isBranch_6 : decode b_MO_isBranch 6 = .ok (.istore_n 3, 1) := by decide +kernel
theorem d_MO_isBranch_7 : decode b_MO_isBranch 7 = .ok (.iload_n 3, 1) := by decide +kernel
theorem d_MO_isBranch_8 : decode b_MO_isBranch 8 = .ok (.iconst 1, 1) := by decide +kernel
theorem d_MO_isBranch_9 : decode b_MO_isBranch 9 = .ok (.if_icmp .le 17, 3) := by decide +kernel
theorem d_MO_isBranch_12 : decode b_MO_isBranch 12 = .ok (.aload_n 0, 1) := by decide +kernel
theorem d_MO_isBranch_13 : decode b_MO_isBranch 13 = .ok (.iload_n 1, 1) := by decide +kernel
theorem d_MO_isBranch_14 : decode b_MO_isBranch 14 = .ok (.iload_n 2, 1) := by decide +kernel
theorem d_MO_isBranch_15 : decode b_MO_isBranch 15 = .ok (.invokevirtual 62, 3) := by decide +kernel
theorem d_MO_isBranch_18 : decode b_MO_isBranch 18 = .ok (.iload_n 2, 1) := by decide +kernel
theorem d_MO_isBranch_19 : decode b_MO_isBranch 19 = .ok (.if_icmp .ne 7, 3) := by decide +kernel
theorem d_MO_isBranch_22 : decode b_MO_isBranch 22 = .ok (.iconst 1, 1) := by decide +kernel
theorem d_MO_isBranch_23 : decode b_MO_isBranch 23 = .ok (.goto 4, 3) := by decide +kernel
theorem d_MO_isBranch_26 : decode b_MO_isBranch 26 = .ok (.iconst 0, 1) := by decide +kernel
theorem d_MO_isBranch_27 : decode b_MO_isBranch 27 = .ok (.ireturn, 1) := by decide +kernel
theorem d_MO_place_0 : decode b_MO_place 0 = .ok (.bipush 16, 2) := by decide +kernel
theorem d_MO_place_2 : decode b_MO_place 2 = .ok (.iload_n 1, 1) := by decide +kernel
theorem d_MO_place_3 : decode b_MO_place 3 = .ok (.imul, 1) := by decide +kernel
theorem d_MO_place_4 : decode b_MO_place 4 = .ok (.istore_n 3, 1) := by decide +kernel
end
section
theorem d_MO_place_5 : decode b_MO_place 5 = .ok (.iload_n 3, 1) := by decide +kernel
theorem d_MO_place_6 : decode b_MO_place 6 = .ok (.bipush 16, 2) := by decide +kernel
theorem d_MO_place_8 : decode b_MO_place 8 = .ok (.iload_n 1, 1) := by decide +kernel
theorem d_MO_place_9 : decode b_MO_place 9 = .ok (.imul, 1) := by decide +kernel
theorem d_MO_place_10 : decode b_MO_place 10 = .ok (.aload_n 0, 1) := by decide +kernel
theorem d_MO_place_11 : decode b_MO_place 11 = .ok (.getfield 26, 3) := by decide +kernel
theorem d_MO_place_14 : decode b_MO_place 14 = .ok (.iload_n 1, 1) := by decide +kernel
theorem d_MO_place_15 : decode b_MO_place 15 = .ok (.iaload, 1) := by decide +kernel
theorem d_MO_place_16 : decode b_MO_place 16 = .ok (.iadd, 1) := by decide +kernel
theorem d_MO_place_17 : decode b_MO_place 17 = .ok (.if_icmp .ge 21, 3) := by decide +kernel
theorem d_MO_place_20 : decode b_MO_place 20 = .ok (.aload_n 0, 1) := by decide +kernel
theorem d_MO_place_21 : decode b_MO_place 21 = .ok (.getfield 19, 3) := by decide +kernel
theorem d_MO_place_24 : decode b_MO_place 24 = .ok (.iload_n 3, 1) := by decide +kernel
theorem d_MO_place_25 : decode b_MO_place 25 = .ok (.iaload, 1) := by decide +kernel
theorem d_MO_place_26 : decode b_MO_place 26 = .ok (.iload_n 2, 1) := by decide +kernel
theorem d_MO_place_27 : decode b_MO_place 27 = .ok (.if_icmp .ne 5, 3) := by decide +kernel
theorem d_MO_place_30 : decode b_MO_place 30 = .ok (.iload_n 3, 1) := by decide +kernel
theorem d_MO_place_31 : decode b_MO_place 31 = .ok (.ireturn, 1) := by decide +kernel
theorem d_MO_place_32 : decode b_MO_place 32 = .ok (.iinc 3 1, 3) := by decide +kernel
theorem d_MO_place_35 : decode b_MO_place 35 = .ok (.goto (-30), 3) := by decide +kernel
theorem d_MO_place_38 : decode b_MO_place 38 = .ok (.iconst (-1), 1) := by decide +kernel
theorem d_MO_place_39 : decode b_MO_place 39 = .ok (.ireturn, 1) := by decide +kernel
theorem d_MO_say_0 : decode b_MO_say 0 = .ok (.aload_n 0, 1) := by decide +kernel
theorem d_MO_say_1 : decode b_MO_say 1 = .ok (.getfield 29, 3) := by decide +kernel
theorem d_MO_say_4 : decode b_MO_say 4 = .ok (.aload_n 0, 1) := by decide +kernel
theorem d_MO_say_5 : decode b_MO_say 5 = .ok (.getfield 65, 3) := by decide +kernel
theorem d_MO_say_8 : decode b_MO_say 8 = .ok (.lload_n 1, 1) := by decide +kernel
theorem d_MO_say_9 : decode b_MO_say 9 = .ok (.lastore, 1) := by decide +kernel
theorem d_MO_say_10 : decode b_MO_say 10 = .ok (.aload_n 0, 1) := by decide +kernel
theorem d_MO_say_11 : decode b_MO_say 11 = .ok (.dup, 1) := by decide +kernel
theorem d_MO_say_12 : decode b_MO_say 12 = .ok (.getfield 65, 3) := by decide +kernel
theorem d_MO_say_15 : decode b_MO_say 15 = .ok (.iconst 1, 1) := by decide +kernel
theorem d_MO_say_16 : decode b_MO_say 16 = .ok (.iadd, 1) := by decide +kernel
theorem d_MO_say_17 : decode b_MO_say 17 = .ok (.putfield 65, 3) := by decide +kernel
theorem d_MO_say_20 : decode b_MO_say 20 = .ok (.return_, 1) := by decide +kernel
theorem d_MO_reference_0 : decode b_MO_reference 0 = .ok (.aload_n 0, 1) := by decide +kernel
theorem d_MO_reference_1 : decode b_MO_reference 1 = .ok (.iload_n 1, 1) := by decide +kernel
theorem d_MO_reference_2 : decode b_MO_reference 2 = .ok (.iload_n 2, 1) := by decide +kernel
theorem d_MO_reference_3 : decode b_MO_reference 3 = .ok (.invokevirtual 56, 3) := by decide +kernel
theorem d_MO_reference_6 : decode b_MO_reference 6 = .ok (.istore 4, 2) := by decide +kernel
theorem d_MO_reference_8 : decode b_MO_reference 8 = .ok (.iload 4, 2) := by decide +kernel
theorem d_MO_reference_10 : decode b_MO_reference 10 = .ok (.ifCond .ne 13, 3) := by decide +kernel
theorem d_MO_reference_13 : decode b_MO_reference 13 = .ok (.iload_n 3, 1) := by decide +kernel
theorem d_MO_reference_14 : decode b_MO_reference 14 = .ok (.ifCond .eq 8, 3) := by decide +kernel
theorem d_MO_reference_17 : decode b_MO_reference 17 = .ok (.aload_n 0, 1) := by decide +kernel
theorem d_MO_reference_18 : decode b_MO_reference 18 = .ok (.lconst 0, 1) := by decide +kernel
theorem d_MO_reference_19 : decode b_MO_reference 19 = .ok (.invokevirtual 68, 3) := by decide +kernel
theorem d_MO_reference_22 : decode b_MO_reference 22 = .ok (.return_, 1) := by decide +kernel
theorem d_MO_reference_23 : decode b_MO_reference 23 = .ok (.iload 4, 2) := by decide +kernel
theorem d_MO_reference_25 : decode b_MO_reference 25 = .ok (.iconst 1, 1) := by decide +kernel
theorem d_MO_reference_26 : decode b_MO_reference 26 = .ok (.if_icmp .ne 57, 3) := by decide +kernel
theorem d_MO_reference_29 : decode b_MO_reference 29 = .ok (.aload_n 0, 1) := by decide +kernel
theorem d_MO_reference_30 : decode b_MO_reference 30 = .ok (.iload_n 1, 1) := by decide +kernel
theorem d_MO_reference_31 : decode b_MO_reference 31 = .ok (.iload_n 2, 1) := by decide +kernel
theorem d_MO_reference_32 : decode b_MO_reference 32 = .ok (.invokevirtual 59, 3) := by decide +kernel
theorem d_MO_reference_35 : decode b_MO_reference 35 = .ok (.istore 5, 2) := by decide +kernel
theorem d_MO_reference_37 : decode b_MO_reference 37 = .ok (.iload_n 3, 1) := by decide +kernel
theorem d_MO_reference_38 : decode b_MO_reference 38 = .ok (.ifCond .eq 10, 3) := by decide +kernel
theorem d_MO_reference_41 : decode b_MO_reference 41 = .ok (.aload_n 0, 1) := by decide +kernel
theorem d_MO_reference_42 : decode b_MO_reference 42 = .ok (.ldc2_w 72, 3) := by decide +kernel
theorem d_MO_reference_45 : decode b_MO_reference 45 = .ok (.invokevirtual 68, 3) := by decide +kernel
theorem d_MO_reference_48 : decode b_MO_reference 48 = .ok (.aload_n 0, 1) := by decide +kernel
theorem d_MO_reference_49 : decode b_MO_reference 49 = .ok (.ldc2_w 72, 3) := by decide +kernel
theorem d_MO_reference_52 : decode b_MO_reference 52 = .ok (.aload_n 0, 1) := by decide +kernel
theorem d_MO_reference_53 : decode b_MO_reference 53 = .ok (.getfield 7, 3) := by decide +kernel
theorem d_MO_reference_56 : decode b_MO_reference 56 = .ok (.iload 5, 2) := by decide +kernel
theorem d_MO_reference_58 : decode b_MO_reference 58 = .ok (.iaload, 1) := by decide +kernel
theorem d_MO_reference_59 : decode b_MO_reference 59 = .ok (.iload_n 2, 1) := by decide +kernel
theorem d_MO_reference_60 : decode b_MO_reference 60 = .ok (.invokestatic 74, 3) := by decide +kernel
theorem d_MO_reference_63 : decode b_MO_reference 63 = .ok (.i2l, 1) := by decide +kernel
theorem d_MO_reference_64 : decode b_MO_reference 64 = .ok (.lmul, 1) := by decide +kernel
theorem d_MO_reference_65 : decode b_MO_reference 65 = .ok (.lconst 1, 1) := by decide +kernel
theorem d_MO_reference_66 : decode b_MO_reference 66 = .ok (.ladd, 1) := by decide +kernel
theorem d_MO_reference_67 : decode b_MO_reference 67 = .ok (.invokevirtual 68, 3) := by decide +kernel
theorem d_MO_reference_70 : decode b_MO_reference 70 = .ok (.aload_n 0, 1) := by decide +kernel
theorem d_MO_reference_71 : decode b_MO_reference 71 = .ok (.aload_n 0, 1) := by decide +kernel
theorem d_MO_reference_72 : decode b_MO_reference 72 = .ok (.getfield 13, 3) := by decide +kernel
theorem d_MO_reference_75 : decode b_MO_reference 75 = .ok (.iload 5, 2) := by decide +kernel
theorem d_MO_reference_77 : decode b_MO_reference 77 = .ok (.iaload, 1) := by decide +kernel
theorem d_MO_reference_78 : decode b_MO_reference 78 = .ok (.i2l, 1) := by decide +kernel
theorem d_MO_reference_79 : decode b_MO_reference 79 = .ok (.invokevirtual 68, 3) := by decide +kernel
theorem d_MO_reference_82 : decode b_MO_reference 82 = .ok (.return_, 1) := by decide +kernel
theorem d_MO_reference_83 : decode b_MO_reference 83 = .ok (.aload_n 0, 1) := by decide +kernel
theorem d_MO_reference_84 : decode b_MO_reference 84 = .ok (.iload_n 1, 1) := by decide +kernel
theorem d_MO_reference_85 : decode b_MO_reference 85 = .ok (.iload_n 2, 1) := by decide +kernel
theorem d_MO_reference_86 : decode b_MO_reference 86 = .ok (.invokevirtual 62, 3) := by decide +kernel
theorem d_MO_reference_89 : decode b_MO_reference 89 = .ok (.istore 5, 2) := by decide +kernel
theorem d_MO_reference_91 : decode b_MO_reference 91 = .ok (.iload_n 3, 1) := by decide +kernel
theorem d_MO_reference_92 : decode b_MO_reference 92 = .ok (.ifCond .eq 20, 3) := by decide +kernel
theorem d_MO_reference_95 : decode b_MO_reference 95 = .ok (.aload_n 0, 1) := by decide +kernel
theorem d_MO_reference_96 : decode b_MO_reference 96 = .ok (.iload 5, 2) := by decide +kernel
theorem d_MO_reference_98 : decode b_MO_reference 98 = .ok (.iload_n 2, 1) := by decide +kernel
theorem d_MO_reference_99 : decode b_MO_reference 99 = .ok (.if_icmp .ne 7, 3) := by decide +kernel
theorem d_MO_reference_102 : decode b_MO_reference 102 = .ok (.lconst 1, 1) := by decide +kernel
theorem d_MO_reference_103 : decode b_MO_reference 103 = .ok (.goto 6, 3) := by decide +kernel
theorem d_MO_reference_106 : decode b_MO_reference 106 = .ok (.ldc2_w 72, 3) := by decide +kernel
theorem d_MO_reference_109 : decode b_MO_reference 109 = .ok (.invokevirtual 68, 3) := by decide +kernel
theorem d_MO_reference_112 : decode b_MO_reference 112 = .ok (.iload 5, 2) := by decide +kernel
theorem d_MO_reference_114 : decode b_MO_reference 114 = .ok (.iload_n 2, 1) := by decide +kernel
theorem d_MO_reference_115 : decode b_MO_reference 115 = .ok (.if_icmp .eq 18, 3) := by decide +kernel
theorem d_MO_reference_118 : decode b_MO_reference 118 = .ok (.aload_n 0, 1) := by decide +kernel
theorem d_MO_reference_119 : decode b_MO_reference 119 = .ok (.ldc2_w 72, 3) := by decide +kernel
theorem d_MO_reference_122 : decode b_MO_reference 122 = .ok (.iload 5, 2) := by decide +kernel
theorem d_MO_reference_124 : decode b_MO_reference 124 = .ok (.iload_n 2, 1) := by decide +kernel
theorem d_MO_reference_125 : decode b_MO_reference 125 = .ok (.invokestatic 74, 3) := by decide +kernel
theorem d_MO_reference_128 : decode b_MO_reference 128 = .ok (.i2l, 1) := by decide +kernel
theorem d_MO_reference_129 : decode b_MO_reference 129 = .ok (.lmul, 1) := by decide +kernel
theorem d_MO_reference_130 : decode b_MO_reference 130 = .ok (.invokevirtual 68, 3) := by decide +kernel
theorem d_MO_reference_133 : decode b_MO_reference 133 = .ok (.aload_n 0, 1) := by decide +kernel
theorem d_MO_reference_134 : decode b_MO_reference 134 = .ok (.aload_n 0, 1) := by decide +kernel
theorem d_MO_reference_135 : decode b_MO_reference 135 = .ok (.getfield 22, 3) := by decide +kernel
theorem d_MO_reference_138 : decode b_MO_reference 138 = .ok (.aload_n 0, 1) := by decide +kernel
theorem d_MO_reference_139 : decode b_MO_reference 139 = .ok (.iload_n 1, 1) := by decide +kernel
theorem d_MO_reference_140 : decode b_MO_reference 140 = .ok (.iload 5, 2) := by decide +kernel
theorem d_MO_reference_142 : decode b_MO_reference 142 = .ok (.invokevirtual 77, 3) := by decide +kernel
theorem d_MO_reference_145 : decode b_MO_reference 145 = .ok (.laload, 1) := by decide +kernel
theorem d_MO_reference_146 : decode b_MO_reference 146 = .ok (.invokevirtual 68, 3) := by decide +kernel
theorem d_MO_reference_149 : decode b_MO_reference 149 = .ok (.return_, 1) := by decide +kernel
theorem d_MO_encode_0 : decode b_MO_encode 0 = .ok (.iconst 0, 1) := by decide +kernel
theorem d_MO_encode_1 : decode b_MO_encode 1 = .ok (.istore_n 3, 1) := by decide +kernel
theorem d_MO_encode_2 : decode b_MO_encode 2 = .ok (.iload_n 3, 1) := by decide +kernel
theorem d_MO_encode_3 : decode b_MO_encode 3 = .ok (.bipush 16, 2) := by decide +kernel
theorem d_MO_encode_5 : decode b_MO_encode 5 = .ok (.if_icmp .ge 21, 3) := by decide +kernel
theorem d_MO_encode_8 : decode b_MO_encode 8 = .ok (.aload_n 0, 1) := by decide +kernel
theorem d_MO_encode_9 : decode b_MO_encode 9 = .ok (.iload_n 1, 1) := by decide +kernel
theorem d_MO_encode_10 : decode b_MO_encode 10 = .ok (.bipush 16, 2) := by decide +kernel
theorem d_MO_encode_12 : decode b_MO_encode 12 = .ok (.iload_n 2, 1) := by decide +kernel
theorem d_MO_encode_13 : decode b_MO_encode 13 = .ok (.imul, 1) := by decide +kernel
theorem d_MO_encode_14 : decode b_MO_encode 14 = .ok (.iload_n 3, 1) := by decide +kernel
theorem d_MO_encode_15 : decode b_MO_encode 15 = .ok (.iadd, 1) := by decide +kernel
theorem d_MO_encode_16 : decode b_MO_encode 16 = .ok (.iconst 1, 1) := by decide +kernel
theorem d_MO_encode_17 : decode b_MO_encode 17 = .ok (.invokevirtual 80, 3) := by decide +kernel
theorem d_MO_encode_20 : decode b_MO_encode 20 = .ok (.iinc 3 1, 3) := by decide +kernel
theorem d_MO_encode_23 : decode b_MO_encode 23 = .ok (.goto (-21), 3) := by decide +kernel
theorem d_MO_encode_26 : decode b_MO_encode 26 = .ok (.aload_n 0, 1) := by decide +kernel
theorem d_MO_encode_27 : decode b_MO_encode 27 = .ok (.aload_n 0, 1) := by decide +kernel
theorem d_MO_encode_28 : decode b_MO_encode 28 = .ok (.iload_n 1, 1) := by decide +kernel
theorem d_MO_encode_29 : decode b_MO_encode 29 = .ok (.iload_n 2, 1) := by decide +kernel
theorem d_MO_encode_30 : decode b_MO_encode 30 = .ok (.invokevirtual 49, 3) := by decide +kernel
theorem d_MO_encode_33 : decode b_MO_encode 33 = .ok (.i2l, 1) := by decide +kernel
theorem d_MO_encode_34 : decode b_MO_encode 34 = .ok (.invokevirtual 68, 3) := by decide +kernel
theorem d_MO_encode_37 : decode b_MO_encode 37 = .ok (.return_, 1) := by decide +kernel
theorem d_MO_mixed_0 : decode b_MO_mixed 0 = .ok (.lload_n 0, 1) := by decide +kernel
theorem d_MO_mixed_1 : decode b_MO_mixed 1 = .ok (.lload_n 2, 1) := by decide +kernel
theorem d_MO_mixed_2 : decode b_MO_mixed 2 = .ok (.lxor, 1) := by decide +kernel
theorem d_MO_mixed_3 : decode b_MO_mixed 3 = .ok (.ldc2_w 84, 3) := by decide +kernel
theorem d_MO_mixed_6 : decode b_MO_mixed 6 = .ok (.lmul, 1) := by decide +kernel
theorem d_MO_mixed_7 : decode b_MO_mixed 7 = .ok (.lstore 4, 2) := by decide +kernel
theorem d_MO_mixed_9 : decode b_MO_mixed 9 = .ok (.lload 4, 2) := by decide +kernel
theorem d_MO_mixed_11 : decode b_MO_mixed 11 = .ok (.lload 4, 2) := by decide +kernel
theorem d_MO_mixed_13 : decode b_MO_mixed 13 = .ok (.bipush 29, 2) := by decide +kernel
theorem d_MO_mixed_15 : decode b_MO_mixed 15 = .ok (.lushr, 1) := by decide +kernel
theorem d_MO_mixed_16 : decode b_MO_mixed 16 = .ok (.lxor, 1) := by decide +kernel
theorem d_MO_mixed_17 : decode b_MO_mixed 17 = .ok (.lreturn, 1) := by decide +kernel
theorem d_MO_digestOfWords_0 : decode b_MO_digestOfWords 0 = .ok (.aload_n 0, 1) := by decide +kernel
theorem d_MO_digestOfWords_1 : decode b_MO_digestOfWords 1 = .ok (.getfield 65, 3) := by decide +kernel
theorem d_MO_digestOfWords_4 : decode b_MO_digestOfWords 4 = .ok (.i2l, 1) := by decide +kernel
theorem d_MO_digestOfWords_5 : decode b_MO_digestOfWords 5 = .ok (.lstore_n 1, 1) := by decide +kernel
theorem d_MO_digestOfWords_6 : decode b_MO_digestOfWords 6 = .ok (.iconst 0, 1) := by decide +kernel
theorem d_MO_digestOfWords_7 : decode b_MO_digestOfWords 7 = .ok (.istore_n 3, 1) := by decide +kernel
theorem d_MO_digestOfWords_8 : decode b_MO_digestOfWords 8 = .ok (.iload_n 3, 1) := by decide +kernel
theorem d_MO_digestOfWords_9 : decode b_MO_digestOfWords 9 = .ok (.aload_n 0, 1) := by decide +kernel
theorem d_MO_digestOfWords_10 : decode b_MO_digestOfWords 10 = .ok (.getfield 65, 3) := by decide +kernel
theorem d_MO_digestOfWords_13 : decode b_MO_digestOfWords 13 = .ok (.if_icmp .ge 20, 3) := by decide +kernel
theorem d_MO_digestOfWords_16 : decode b_MO_digestOfWords 16 = .ok (.lload_n 1, 1) := by decide +kernel
theorem d_MO_digestOfWords_17 : decode b_MO_digestOfWords 17 = .ok (.aload_n 0, 1) := by decide +kernel
theorem d_MO_digestOfWords_18 : decode b_MO_digestOfWords 18 = .ok (.getfield 29, 3) := by decide +kernel
theorem d_MO_digestOfWords_21 : decode b_MO_digestOfWords 21 = .ok (.iload_n 3, 1) := by decide +kernel
theorem d_MO_digestOfWords_22 : decode b_MO_digestOfWords 22 = .ok (.laload, 1) := by decide +kernel
theorem d_MO_digestOfWords_23 : decode b_MO_digestOfWords 23 = .ok (.invokestatic 86, 3) := by decide +kernel
theorem d_MO_digestOfWords_26 : decode b_MO_digestOfWords 26 = .ok (.lstore_n 1, 1) := by decide +kernel
theorem d_MO_digestOfWords_27 : decode b_MO_digestOfWords 27 = .ok (.iinc 3 1, 3) := by decide +kernel
theorem d_MO_digestOfWords_30 : decode b_MO_digestOfWords 30 = .ok (.goto (-22), 3) := by decide +kernel
theorem d_MO_digestOfWords_33 : decode b_MO_digestOfWords 33 = .ok (.lload_n 1, 1) := by decide +kernel
theorem d_MO_digestOfWords_34 : decode b_MO_digestOfWords 34 = .ok (.lreturn, 1) := by decide +kernel
theorem d_MO_build_0 : decode b_MO_build 0 = .ok (.aload_n 0, 1) := by decide +kernel
theorem d_MO_build_1 : decode b_MO_build 1 = .ok (.getfield 26, 3) := by decide +kernel
theorem d_MO_build_4 : decode b_MO_build 4 = .ok (.iload_n 1, 1) := by decide +kernel
theorem d_MO_build_5 : decode b_MO_build 5 = .ok (.iconst 0, 1) := by decide +kernel
theorem d_MO_build_6 : decode b_MO_build 6 = .ok (.iastore, 1) := by decide +kernel
theorem d_MO_build_7 : decode b_MO_build 7 = .ok (.iconst 3, 1) := by decide +kernel
theorem d_MO_build_8 : decode b_MO_build 8 = .ok (.istore_n 2, 1) := by decide +kernel
theorem d_MO_build_9 : decode b_MO_build 9 = .ok (.iload_n 2, 1) := by decide +kernel
theorem d_MO_build_10 : decode b_MO_build 10 = .ok (.ifCond .lt 155, 3) := by decide +kernel
theorem d_MO_build_13 : decode b_MO_build 13 = .ok (.bipush 16, 2) := by decide +kernel
theorem d_MO_build_15 : decode b_MO_build 15 = .ok (.iload_n 1, 1) := by decide +kernel
theorem d_MO_build_16 : decode b_MO_build 16 = .ok (.imul, 1) := by decide +kernel
theorem d_MO_build_17 : decode b_MO_build 17 = .ok (.istore_n 3, 1) := by decide +kernel
theorem d_MO_build_18 : decode b_MO_build 18 = .ok (.iload_n 3, 1) := by decide +kernel
theorem d_MO_build_19 : decode b_MO_build 19 = .ok (.bipush 16, 2) := by decide +kernel
theorem d_MO_build_21 : decode b_MO_build 21 = .ok (.iload_n 1, 1) := by decide +kernel
theorem d_MO_build_22 : decode b_MO_build 22 = .ok (.imul, 1) := by decide +kernel
theorem d_MO_build_23 : decode b_MO_build 23 = .ok (.aload_n 0, 1) := by decide +kernel
theorem d_MO_build_24 : decode b_MO_build 24 = .ok (.getfield 16, 3) := by decide +kernel
theorem d_MO_build_27 : decode b_MO_build 27 = .ok (.iload_n 1, 1) := by decide +kernel
theorem d_MO_build_28 : decode b_MO_build 28 = .ok (.iaload, 1) := by decide +kernel
theorem d_MO_build_29 : decode b_MO_build 29 = .ok (.iadd, 1) := by decide +kernel
theorem d_MO_build_30 : decode b_MO_build 30 = .ok (.if_icmp .ge 129, 3) := by decide +kernel
theorem d_MO_build_33 : decode b_MO_build 33 = .ok (.aload_n 0, 1) := by decide +kernel
theorem d_MO_build_34 : decode b_MO_build 34 = .ok (.getfield 7, 3) := by decide +kernel
theorem d_MO_build_37 : decode b_MO_build 37 = .ok (.iload_n 3, 1) := by decide +kernel
theorem d_MO_build_38 : decode b_MO_build 38 = .ok (.iaload, 1) := by decide +kernel
theorem d_MO_build_39 : decode b_MO_build 39 = .ok (.invokestatic 41, 3) := by decide +kernel
theorem d_MO_build_42 : decode b_MO_build 42 = .ok (.iload_n 2, 1) := by decide +kernel
theorem d_MO_build_43 : decode b_MO_build 43 = .ok (.isub, 1) := by decide +kernel
theorem d_MO_build_44 : decode b_MO_build 44 = .ok (.istore 4, 2) := by decide +kernel
theorem d_MO_build_46 : decode b_MO_build 46 = .ok (.iload 4, 2) := by decide +kernel
theorem d_MO_build_48 : decode b_MO_build 48 = .ok (.ifCond .lt 17, 3) := by decide +kernel
theorem d_MO_build_51 : decode b_MO_build 51 = .ok (.aload_n 0, 1) := by decide +kernel
theorem d_MO_build_52 : decode b_MO_build 52 = .ok (.getfield 7, 3) := by decide +kernel
theorem d_MO_build_55 : decode b_MO_build 55 = .ok (.iload_n 3, 1) := by decide +kernel
theorem d_MO_build_56 : decode b_MO_build 56 = .ok (.iaload, 1) := by decide +kernel
theorem d_MO_build_57 : decode b_MO_build 57 = .ok (.iconst 4, 1) := by decide +kernel
theorem d_MO_build_58 : decode b_MO_build 58 = .ok (.iload 4, 2) := by decide +kernel
theorem d_MO_build_60 : decode b_MO_build 60 = .ok (.imul, 1) := by decide +kernel
theorem d_MO_build_61 : decode b_MO_build 61 = .ok (.ishr, 1) := by decide +kernel
theorem d_MO_build_62 : decode b_MO_build 62 = .ok (.goto 4, 3) := by decide +kernel
theorem d_MO_build_65 : decode b_MO_build 65 = .ok (.iconst (-1), 1) := by decide +kernel
theorem d_MO_build_66 : decode b_MO_build 66 = .ok (.istore 5, 2) := by decide +kernel
theorem d_MO_build_68 : decode b_MO_build 68 = .ok (.iload 5, 2) := by decide +kernel
theorem d_MO_build_70 : decode b_MO_build 70 = .ok (.ifCond .le 83, 3) := by decide +kernel
theorem d_MO_build_73 : decode b_MO_build 73 = .ok (.aload_n 0, 1) := by decide +kernel
theorem d_MO_build_74 : decode b_MO_build 74 = .ok (.iload_n 1, 1) := by decide +kernel
theorem d_MO_build_75 : decode b_MO_build 75 = .ok (.iload 5, 2) := by decide +kernel
theorem d_MO_build_77 : decode b_MO_build 77 = .ok (.invokevirtual 77, 3) := by decide +kernel
theorem d_MO_build_80 : decode b_MO_build 80 = .ok (.ifCond .ge 73, 3) := by decide +kernel
theorem d_MO_build_83 : decode b_MO_build 83 = .ok (.aload_n 0, 1) := by decide +kernel
theorem d_MO_build_84 : decode b_MO_build 84 = .ok (.iload_n 1, 1) := by decide +kernel
theorem d_MO_build_85 : decode b_MO_build 85 = .ok (.iload 5, 2) := by decide +kernel
theorem d_MO_build_87 : decode b_MO_build 87 = .ok (.invokevirtual 90, 3) := by decide +kernel
theorem d_MO_build_90 : decode b_MO_build 90 = .ok (.ifCond .eq 63, 3) := by decide +kernel
theorem d_MO_build_93 : decode b_MO_build 93 = .ok (.aload_n 0, 1) := by decide +kernel
theorem d_MO_build_94 : decode b_MO_build 94 = .ok (.iconst 0, 1) := by decide +kernel
theorem d_MO_build_95 : decode b_MO_build 95 = .ok (.putfield 65, 3) := by decide +kernel
theorem d_MO_build_98 : decode b_MO_build 98 = .ok (.aload_n 0, 1) := by decide +kernel
theorem d_MO_build_99 : decode b_MO_build 99 = .ok (.iload_n 1, 1) := by decide +kernel
theorem d_MO_build_100 : decode b_MO_build 100 = .ok (.iload 5, 2) := by decide +kernel
theorem d_MO_build_102 : decode b_MO_build 102 = .ok (.invokevirtual 93, 3) := by decide +kernel
theorem d_MO_build_105 : decode b_MO_build 105 = .ok (.aload_n 0, 1) := by decide +kernel
theorem d_MO_build_106 : decode b_MO_build 106 = .ok (.getfield 19, 3) := by decide +kernel
theorem d_MO_build_109 : decode b_MO_build 109 = .ok (.bipush 16, 2) := by decide +kernel
theorem d_MO_build_111 : decode b_MO_build 111 = .ok (.iload_n 1, 1) := by decide +kernel
theorem d_MO_build_112 : decode b_MO_build 112 = .ok (.imul, 1) := by decide +kernel
theorem d_MO_build_113 : decode b_MO_build 113 = .ok (.aload_n 0, 1) := by decide +kernel
theorem d_MO_build_114 : decode b_MO_build 114 = .ok (.getfield 26, 3) := by decide +kernel
theorem d_MO_build_117 : decode b_MO_build 117 = .ok (.iload_n 1, 1) := by decide +kernel
theorem d_MO_build_118 : decode b_MO_build 118 = .ok (.iaload, 1) := by decide +kernel
theorem d_MO_build_119 : decode b_MO_build 119 = .ok (.iadd, 1) := by decide +kernel
theorem d_MO_build_120 : decode b_MO_build 120 = .ok (.iload 5, 2) := by decide +kernel
theorem d_MO_build_122 : decode b_MO_build 122 = .ok (.iastore, 1) := by decide +kernel
theorem d_MO_build_123 : decode b_MO_build 123 = .ok (.aload_n 0, 1) := by decide +kernel
theorem d_MO_build_124 : decode b_MO_build 124 = .ok (.getfield 22, 3) := by decide +kernel
theorem d_MO_build_127 : decode b_MO_build 127 = .ok (.bipush 16, 2) := by decide +kernel
theorem d_MO_build_129 : decode b_MO_build 129 = .ok (.iload_n 1, 1) := by decide +kernel
theorem d_MO_build_130 : decode b_MO_build 130 = .ok (.imul, 1) := by decide +kernel
theorem d_MO_build_131 : decode b_MO_build 131 = .ok (.aload_n 0, 1) := by decide +kernel
theorem d_MO_build_132 : decode b_MO_build 132 = .ok (.getfield 26, 3) := by decide +kernel
theorem d_MO_build_135 : decode b_MO_build 135 = .ok (.iload_n 1, 1) := by decide +kernel
theorem d_MO_build_136 : decode b_MO_build 136 = .ok (.iaload, 1) := by decide +kernel
theorem d_MO_build_137 : decode b_MO_build 137 = .ok (.iadd, 1) := by decide +kernel
theorem d_MO_build_138 : decode b_MO_build 138 = .ok (.aload_n 0, 1) := by decide +kernel
theorem d_MO_build_139 : decode b_MO_build 139 = .ok (.invokevirtual 97, 3) := by decide +kernel
theorem d_MO_build_142 : decode b_MO_build 142 = .ok (.lastore, 1) := by decide +kernel
theorem d_MO_build_143 : decode b_MO_build 143 = .ok (.aload_n 0, 1) := by decide +kernel
theorem d_MO_build_144 : decode b_MO_build 144 = .ok (.getfield 26, 3) := by decide +kernel
theorem d_MO_build_147 : decode b_MO_build 147 = .ok (.iload_n 1, 1) := by decide +kernel
theorem d_MO_build_148 : decode b_MO_build 148 = .ok (.dup2, 1) := by decide +kernel
theorem d_MO_build_149 : decode b_MO_build 149 = .ok (.iaload, 1) := by decide +kernel
theorem d_MO_build_150 : decode b_MO_build 150 = .ok (.iconst 1, 1) := by decide +kernel
theorem d_MO_build_151 : decode b_MO_build 151 = .ok (.iadd, 1) := by decide +kernel
theorem d_MO_build_152 : decode b_MO_build 152 = .ok (.iastore, 1) := by decide +kernel
theorem d_MO_build_153 : decode b_MO_build 153 = .ok (.iinc 3 1, 3) := by decide +kernel
theorem d_MO_build_156 : decode b_MO_build 156 = .ok (.goto (-138), 3) := by decide +kernel
theorem d_MO_build_159 : decode b_MO_build 159 = .ok (.iinc 2 (-1), 3) := by decide +kernel
theorem d_MO_build_162 : decode b_MO_build 162 = .ok (.goto (-153), 3) := by decide +kernel
theorem d_MO_build_165 : decode b_MO_build 165 = .ok (.return_, 1) := by decide +kernel
theorem d_MO_rootOf_0 : decode b_MO_rootOf 0 = .ok (.aload_n 0, 1) := by decide +kernel
theorem d_MO_rootOf_1 : decode b_MO_rootOf 1 = .ok (.iconst 0, 1) := by decide +kernel
theorem d_MO_rootOf_2 : decode b_MO_rootOf 2 = .ok (.putfield 65, 3) := by decide +kernel
theorem d_MO_rootOf_5 : decode b_MO_rootOf 5 = .ok (.aload_n 0, 1) := by decide +kernel
theorem d_MO_rootOf_6 : decode b_MO_rootOf 6 = .ok (.iload_n 1, 1) := by decide +kernel
theorem d_MO_rootOf_7 : decode b_MO_rootOf 7 = .ok (.iconst 1, 1) := by decide +kernel
theorem d_MO_rootOf_8 : decode b_MO_rootOf 8 = .ok (.iconst 0, 1) := by decide +kernel
theorem d_MO_rootOf_9 : decode b_MO_rootOf 9 = .ok (.invokevirtual 80, 3) := by decide +kernel
theorem d_MO_rootOf_12 : decode b_MO_rootOf 12 = .ok (.aload_n 0, 1) := by decide +kernel
theorem d_MO_rootOf_13 : decode b_MO_rootOf 13 = .ok (.invokevirtual 97, 3) := by decide +kernel
theorem d_MO_rootOf_16 : decode b_MO_rootOf 16 = .ok (.lreturn, 1) := by decide +kernel
theorem d_MO_root_0 : decode b_MO_root 0 = .ok (.aload_n 0, 1) := by decide +kernel
theorem d_MO_root_1 : decode b_MO_root 1 = .ok (.iconst 0, 1) := by decide +kernel
theorem d_MO_root_2 : decode b_MO_root 2 = .ok (.invokevirtual 101, 3) := by decide +kernel
theorem d_MO_root_5 : decode b_MO_root 5 = .ok (.aload_n 0, 1) := by decide +kernel
theorem d_MO_root_6 : decode b_MO_root 6 = .ok (.iconst 0, 1) := by decide +kernel
theorem d_MO_root_7 : decode b_MO_root 7 = .ok (.invokevirtual 105, 3) := by decide +kernel
theorem d_MO_root_10 : decode b_MO_root 10 = .ok (.lreturn, 1) := by decide +kernel
theorem d_MO_count_0 : decode b_MO_count 0 = .ok (.aload_n 0, 1) := by decide +kernel
theorem d_MO_count_1 : decode b_MO_count 1 = .ok (.iconst 0, 1) := by decide +kernel
theorem d_MO_count_2 : decode b_MO_count 2 = .ok (.invokevirtual 101, 3) := by decide +kernel
theorem d_MO_count_5 : decode b_MO_count 5 = .ok (.iconst 0, 1) := by decide +kernel
theorem d_MO_count_6 : decode b_MO_count 6 = .ok (.istore_n 2, 1) := by decide +kernel
theorem d_MO_count_7 : decode b_MO_count 7 = .ok (.aload_n 0, 1) := by decide +kernel
theorem d_MO_count_8 : decode b_MO_count 8 = .ok (.getfield 16, 3) := by decide +kernel
theorem d_MO_count_11 : decode b_MO_count 11 = .ok (.iconst 0, 1) := by decide +kernel
theorem d_MO_count_12 : decode b_MO_count 12 = .ok (.iaload, 1) := by decide +kernel
theorem d_MO_count_13 : decode b_MO_count 13 = .ok (.iconst 1, 1) := by decide +kernel
theorem d_MO_count_14 : decode b_MO_count 14 = .ok (.if_icmp .le 17, 3) := by decide +kernel
theorem d_MO_count_17 : decode b_MO_count 17 = .ok (.aload_n 0, 1) := by decide +kernel
theorem d_MO_count_18 : decode b_MO_count 18 = .ok (.iconst 0, 1) := by decide +kernel
theorem d_MO_count_19 : decode b_MO_count 19 = .ok (.iconst 1, 1) := by decide +kernel
theorem d_MO_count_20 : decode b_MO_count 20 = .ok (.invokevirtual 62, 3) := by decide +kernel
theorem d_MO_count_23 : decode b_MO_count 23 = .ok (.iconst 1, 1) := by decide +kernel
theorem d_MO_count_24 : decode b_MO_count 24 = .ok (.if_icmp .eq 7, 3) := by decide +kernel
theorem d_MO_count_27 : decode b_MO_count 27 = .ok (.iconst 1, 1) := by decide +kernel
theorem d_MO_count_28 : decode b_MO_count 28 = .ok (.goto 4, 3) := by decide +kernel
theorem d_MO_count_31 : decode b_MO_count 31 = .ok (.iconst 0, 1) := by decide +kernel
theorem d_MO_count_32 : decode b_MO_count 32 = .ok (.istore_n 3, 1) := by decide +kernel
theorem d_MO_count_33 : decode b_MO_count 33 = .ok (.iconst 0, 1) := by decide +kernel
theorem d_MO_count_34 : decode b_MO_count 34 = .ok (.istore 4, 2) := by decide +kernel
theorem d_MO_count_36 : decode b_MO_count 36 = .ok (.iload 4, 2) := by decide +kernel
theorem d_MO_count_38 : decode b_MO_count 38 = .ok (.aload_n 0, 1) := by decide +kernel
theorem d_MO_count_39 : decode b_MO_count 39 = .ok (.getfield 26, 3) := by decide +kernel
theorem d_MO_count_42 : decode b_MO_count 42 = .ok (.iconst 0, 1) := by decide +kernel
theorem d_MO_count_43 : decode b_MO_count 43 = .ok (.iaload, 1) := by decide +kernel
theorem d_MO_count_44 : decode b_MO_count 44 = .ok (.if_icmp .ge 93, 3) := by decide +kernel
theorem d_MO_count_47 : decode b_MO_count 47 = .ok (.aload_n 0, 1) := by decide +kernel
theorem d_MO_count_48 : decode b_MO_count 48 = .ok (.iconst 0, 1) := by decide +kernel
theorem d_MO_count_49 : decode b_MO_count 49 = .ok (.aload_n 0, 1) := by decide +kernel
theorem d_MO_count_50 : decode b_MO_count 50 = .ok (.getfield 19, 3) := by decide +kernel
theorem d_MO_count_53 : decode b_MO_count 53 = .ok (.iload 4, 2) := by decide +kernel
theorem d_MO_count_55 : decode b_MO_count 55 = .ok (.iaload, 1) := by decide +kernel
theorem d_MO_count_56 : decode b_MO_count 56 = .ok (.invokevirtual 45, 3) := by decide +kernel
theorem d_MO_count_59 : decode b_MO_count 59 = .ok (.ifCond .lt 9, 3) := by decide +kernel
theorem d_MO_count_62 : decode b_MO_count 62 = .ok (.iload_n 2, 1) := by decide +kernel
theorem d_MO_count_63 : decode b_MO_count 63 = .ok (.iconst 1, 1) := by decide +kernel
theorem d_MO_count_64 : decode b_MO_count 64 = .ok (.iadd, 1) := by decide +kernel
theorem d_MO_count_65 : decode b_MO_count 65 = .ok (.goto 4, 3) := by decide +kernel
theorem d_MO_count_68 : decode b_MO_count 68 = .ok (.iload_n 2, 1) := by decide +kernel
theorem d_MO_count_69 : decode b_MO_count 69 = .ok (.istore_n 2, 1) := by decide +kernel
theorem d_MO_count_70 : decode b_MO_count 70 = .ok (.iconst 0, 1) := by decide +kernel
theorem d_MO_count_71 : decode b_MO_count 71 = .ok (.istore 5, 2) := by decide +kernel
theorem d_MO_count_73 : decode b_MO_count 73 = .ok (.iload 5, 2) := by decide +kernel
theorem d_MO_count_75 : decode b_MO_count 75 = .ok (.bipush 16, 2) := by decide +kernel
theorem d_MO_count_77 : decode b_MO_count 77 = .ok (.if_icmp .ge 54, 3) := by decide +kernel
theorem d_MO_count_80 : decode b_MO_count 80 = .ok (.bipush 16, 2) := by decide +kernel
theorem d_MO_count_82 : decode b_MO_count 82 = .ok (.aload_n 0, 1) := by decide +kernel
theorem d_MO_count_83 : decode b_MO_count 83 = .ok (.getfield 19, 3) := by decide +kernel
theorem d_MO_count_86 : decode b_MO_count 86 = .ok (.iload 4, 2) := by decide +kernel
theorem d_MO_count_88 : decode b_MO_count 88 = .ok (.iaload, 1) := by decide +kernel
theorem d_MO_count_89 : decode b_MO_count 89 = .ok (.imul, 1) := by decide +kernel
theorem d_MO_count_90 : decode b_MO_count 90 = .ok (.iload 5, 2) := by decide +kernel
theorem d_MO_count_92 : decode b_MO_count 92 = .ok (.iadd, 1) := by decide +kernel
theorem d_MO_count_93 : decode b_MO_count 93 = .ok (.istore 6, 2) := by decide +kernel
theorem d_MO_count_95 : decode b_MO_count 95 = .ok (.aload_n 0, 1) := by decide +kernel
theorem d_MO_count_96 : decode b_MO_count 96 = .ok (.iconst 0, 1) := by decide +kernel
theorem d_MO_count_97 : decode b_MO_count 97 = .ok (.iload 6, 2) := by decide +kernel
theorem d_MO_count_99 : decode b_MO_count 99 = .ok (.invokevirtual 56, 3) := by decide +kernel
theorem d_MO_count_102 : decode b_MO_count 102 = .ok (.istore 7, 2) := by decide +kernel
theorem d_MO_count_104 : decode b_MO_count 104 = .ok (.iload 7, 2) := by decide +kernel
theorem d_MO_count_106 : decode b_MO_count 106 = .ok (.iconst 1, 1) := by decide +kernel
theorem d_MO_count_107 : decode b_MO_count 107 = .ok (.if_icmp .le 18, 3) := by decide +kernel
theorem d_MO_count_110 : decode b_MO_count 110 = .ok (.aload_n 0, 1) := by decide +kernel
theorem d_MO_count_111 : decode b_MO_count 111 = .ok (.iconst 0, 1) := by decide +kernel
theorem d_MO_count_112 : decode b_MO_count 112 = .ok (.iload 6, 2) := by decide +kernel
theorem d_MO_count_114 : decode b_MO_count 114 = .ok (.invokevirtual 62, 3) := by decide +kernel
theorem d_MO_count_117 : decode b_MO_count 117 = .ok (.iload 6, 2) := by decide +kernel
theorem d_MO_count_119 : decode b_MO_count 119 = .ok (.if_icmp .eq 6, 3) := by decide +kernel
theorem d_MO_count_122 : decode b_MO_count 122 = .ok (.iinc 3 1, 3) := by decide +kernel
theorem d_MO_count_125 : decode b_MO_count 125 = .ok (.iinc 5 1, 3) := by decide +kernel
theorem d_MO_count_128 : decode b_MO_count 128 = .ok (.goto (-55), 3) := by decide +kernel
theorem d_MO_count_131 : decode b_MO_count 131 = .ok (.iinc 4 1, 3) := by decide +kernel
theorem d_MO_count_134 : decode b_MO_count 134 = .ok (.goto (-98), 3) := by decide +kernel
theorem d_MO_count_137 : decode b_MO_count 137 = .ok (.iload_n 1, 1) := by decide +kernel
theorem d_MO_count_138 : decode b_MO_count 138 = .ok (.ifCond .ne 14, 3) := by decide +kernel
theorem d_MO_count_141 : decode b_MO_count 141 = .ok (.aload_n 0, 1) := by decide +kernel
theorem d_MO_count_142 : decode b_MO_count 142 = .ok (.getfield 16, 3) := by decide +kernel
theorem d_MO_count_145 : decode b_MO_count 145 = .ok (.iconst 0, 1) := by decide +kernel
theorem d_MO_count_146 : decode b_MO_count 146 = .ok (.iaload, 1) := by decide +kernel
theorem d_MO_count_147 : decode b_MO_count 147 = .ok (.iload_n 2, 1) := by decide +kernel
theorem d_MO_count_148 : decode b_MO_count 148 = .ok (.isub, 1) := by decide +kernel
theorem d_MO_count_149 : decode b_MO_count 149 = .ok (.goto 27, 3) := by decide +kernel
theorem d_MO_count_152 : decode b_MO_count 152 = .ok (.iload_n 1, 1) := by decide +kernel
theorem d_MO_count_153 : decode b_MO_count 153 = .ok (.iconst 1, 1) := by decide +kernel
theorem d_MO_count_154 : decode b_MO_count 154 = .ok (.if_icmp .ne 7, 3) := by decide +kernel
theorem d_MO_count_157 : decode b_MO_count 157 = .ok (.iload_n 3, 1) := by decide +kernel
theorem d_MO_count_158 : decode b_MO_count 158 = .ok (.goto 18, 3) := by decide +kernel
theorem d_MO_count_161 : decode b_MO_count 161 = .ok (.iload_n 1, 1) := by decide +kernel
theorem d_MO_count_162 : decode b_MO_count 162 = .ok (.iconst 2, 1) := by decide +kernel
theorem d_MO_count_163 : decode b_MO_count 163 = .ok (.if_icmp .ne 12, 3) := by decide +kernel
theorem d_MO_count_166 : decode b_MO_count 166 = .ok (.aload_n 0, 1) := by decide +kernel
theorem d_MO_count_167 : decode b_MO_count 167 = .ok (.getfield 26, 3) := by decide +kernel
theorem d_MO_count_170 : decode b_MO_count 170 = .ok (.iconst 0, 1) := by decide +kernel
theorem d_MO_count_171 : decode b_MO_count 171 = .ok (.iaload, 1) := by decide +kernel
theorem d_MO_count_172 : decode b_MO_count 172 = .ok (.goto 4, 3) := by decide +kernel
theorem d_MO_count_175 : decode b_MO_count 175 = .ok (.iconst (-1), 1) := by decide +kernel
theorem d_MO_count_176 : decode b_MO_count 176 = .ok (.ireturn, 1) := by decide +kernel
theorem d_MO_same_0 : decode b_MO_same 0 = .ok (.iload_n 1, 1) := by decide +kernel
theorem d_MO_same_1 : decode b_MO_same 1 = .ok (.bipush 16, 2) := by decide +kernel
theorem d_MO_same_3 : decode b_MO_same 3 = .ok (.idiv, 1) := by decide +kernel
theorem d_MO_same_4 : decode b_MO_same 4 = .ok (.istore_n 3, 1) := by decide +kernel
theorem d_MO_same_5 : decode b_MO_same 5 = .ok (.iload_n 2, 1) := by decide +kernel
theorem d_MO_same_6 : decode b_MO_same 6 = .ok (.bipush 16, 2) := by decide +kernel
theorem d_MO_same_8 : decode b_MO_same 8 = .ok (.idiv, 1) := by decide +kernel
theorem d_MO_same_9 : decode b_MO_same 9 = .ok (.istore 4, 2) := by decide +kernel
theorem d_MO_same_11 : decode b_MO_same 11 = .ok (.aload_n 0, 1) := by decide +kernel
theorem d_MO_same_12 : decode b_MO_same 12 = .ok (.iload_n 3, 1) := by decide +kernel
theorem d_MO_same_13 : decode b_MO_same 13 = .ok (.aload_n 0, 1) := by decide +kernel
theorem d_MO_same_14 : decode b_MO_same 14 = .ok (.getfield 19, 3) := by decide +kernel
theorem d_MO_same_17 : decode b_MO_same 17 = .ok (.iload_n 1, 1) := by decide +kernel
theorem d_MO_same_18 : decode b_MO_same 18 = .ok (.iaload, 1) := by decide +kernel
theorem d_MO_same_19 : decode b_MO_same 19 = .ok (.invokevirtual 56, 3) := by decide +kernel
theorem d_MO_same_22 : decode b_MO_same 22 = .ok (.istore 5, 2) := by decide +kernel
theorem d_MO_same_24 : decode b_MO_same 24 = .ok (.aload_n 0, 1) := by decide +kernel
theorem d_MO_same_25 : decode b_MO_same 25 = .ok (.iload 4, 2) := by decide +kernel
theorem d_MO_same_27 : decode b_MO_same 27 = .ok (.aload_n 0, 1) := by decide +kernel
theorem d_MO_same_28 : decode b_MO_same 28 = .ok (.getfield 19, 3) := by decide +kernel
theorem d_MO_same_31 : decode b_MO_same 31 = .ok (.iload_n 2, 1) := by decide +kernel
theorem d_MO_same_32 : decode b_MO_same 32 = .ok (.iaload, 1) := by decide +kernel
theorem d_MO_same_33 : decode b_MO_same 33 = .ok (.invokevirtual 56, 3) := by decide +kernel
theorem d_MO_same_36 : decode b_MO_same 36 = .ok (.istore 6, 2) := by decide +kernel
theorem d_MO_same_38 : decode b_MO_same 38 = .ok (.iload 5, 2) := by decide +kernel
theorem d_MO_same_40 : decode b_MO_same 40 = .ok (.iload 6, 2) := by decide +kernel
theorem d_MO_same_42 : decode b_MO_same 42 = .ok (.if_icmp .eq 5, 3) := by decide +kernel
theorem d_MO_same_45 : decode b_MO_same 45 = .ok (.iconst 0, 1) := by decide +kernel
theorem d_MO_same_46 : decode b_MO_same 46 = .ok (.ireturn, 1) := by decide +kernel
theorem d_MO_same_47 : decode b_MO_same 47 = .ok (.bipush 16, 2) := by decide +kernel
theorem d_MO_same_49 : decode b_MO_same 49 = .ok (.iload_n 3, 1) := by decide +kernel
theorem d_MO_same_50 : decode b_MO_same 50 = .ok (.imul, 1) := by decide +kernel
theorem d_MO_same_51 : decode b_MO_same 51 = .ok (.istore 7, 2) := by decide +kernel
theorem d_MO_same_53 : decode b_MO_same 53 = .ok (.iload 7, 2) := by decide +kernel
theorem d_MO_same_55 : decode b_MO_same 55 = .ok (.bipush 16, 2) := by decide +kernel
theorem d_MO_same_57 : decode b_MO_same 57 = .ok (.iload_n 3, 1) := by decide +kernel
theorem d_MO_same_58 : decode b_MO_same 58 = .ok (.imul, 1) := by decide +kernel
theorem d_MO_same_59 : decode b_MO_same 59 = .ok (.aload_n 0, 1) := by decide +kernel
theorem d_MO_same_60 : decode b_MO_same 60 = .ok (.getfield 16, 3) := by decide +kernel
theorem d_MO_same_63 : decode b_MO_same 63 = .ok (.iload_n 3, 1) := by decide +kernel
theorem d_MO_same_64 : decode b_MO_same 64 = .ok (.iaload, 1) := by decide +kernel
theorem d_MO_same_65 : decode b_MO_same 65 = .ok (.iadd, 1) := by decide +kernel
theorem d_MO_same_66 : decode b_MO_same 66 = .ok (.if_icmp .ge 152, 3) := by decide +kernel
theorem d_MO_same_69 : decode b_MO_same 69 = .ok (.aload_n 0, 1) := by decide +kernel
theorem d_MO_same_70 : decode b_MO_same 70 = .ok (.getfield 7, 3) := by decide +kernel
theorem d_MO_same_73 : decode b_MO_same 73 = .ok (.iload 7, 2) := by decide +kernel
theorem d_MO_same_75 : decode b_MO_same 75 = .ok (.iaload, 1) := by decide +kernel
theorem d_MO_same_76 : decode b_MO_same 76 = .ok (.aload_n 0, 1) := by decide +kernel
theorem d_MO_same_77 : decode b_MO_same 77 = .ok (.getfield 19, 3) := by decide +kernel
theorem d_MO_same_80 : decode b_MO_same 80 = .ok (.iload_n 1, 1) := by decide +kernel
theorem d_MO_same_81 : decode b_MO_same 81 = .ok (.iaload, 1) := by decide +kernel
theorem d_MO_same_82 : decode b_MO_same 82 = .ok (.invokestatic 52, 3) := by decide +kernel
theorem d_MO_same_85 : decode b_MO_same 85 = .ok (.ifCond .eq 127, 3) := by decide +kernel
theorem d_MO_same_88 : decode b_MO_same 88 = .ok (.iconst 0, 1) := by decide +kernel
theorem d_MO_same_89 : decode b_MO_same 89 = .ok (.istore 8, 2) := by decide +kernel
theorem d_MO_same_91 : decode b_MO_same 91 = .ok (.bipush 16, 2) := by decide +kernel
theorem d_MO_same_93 : decode b_MO_same 93 = .ok (.iload 4, 2) := by decide +kernel
theorem d_MO_same_95 : decode b_MO_same 95 = .ok (.imul, 1) := by decide +kernel
theorem d_MO_same_96 : decode b_MO_same 96 = .ok (.istore 9, 2) := by decide +kernel
theorem d_MO_same_98 : decode b_MO_same 98 = .ok (.iload 9, 2) := by decide +kernel
theorem d_MO_same_100 : decode b_MO_same 100 = .ok (.bipush 16, 2) := by decide +kernel
theorem d_MO_same_102 : decode b_MO_same 102 = .ok (.iload 4, 2) := by decide +kernel
theorem d_MO_same_104 : decode b_MO_same 104 = .ok (.imul, 1) := by decide +kernel
theorem d_MO_same_105 : decode b_MO_same 105 = .ok (.aload_n 0, 1) := by decide +kernel
theorem d_MO_same_106 : decode b_MO_same 106 = .ok (.getfield 16, 3) := by decide +kernel
theorem d_MO_same_109 : decode b_MO_same 109 = .ok (.iload 4, 2) := by decide +kernel
theorem d_MO_same_111 : decode b_MO_same 111 = .ok (.iaload, 1) := by decide +kernel
theorem d_MO_same_112 : decode b_MO_same 112 = .ok (.iadd, 1) := by decide +kernel
theorem d_MO_same_113 : decode b_MO_same 113 = .ok (.if_icmp .ge 92, 3) := by decide +kernel
theorem d_MO_same_116 : decode b_MO_same 116 = .ok (.iload 8, 2) := by decide +kernel
theorem d_MO_same_118 : decode b_MO_same 118 = .ok (.ifCond .ne 74, 3) := by decide +kernel
theorem d_MO_same_121 : decode b_MO_same 121 = .ok (.aload_n 0, 1) := by decide +kernel
theorem d_MO_same_122 : decode b_MO_same 122 = .ok (.getfield 7, 3) := by decide +kernel
theorem d_MO_same_125 : decode b_MO_same 125 = .ok (.iload 9, 2) := by decide +kernel
theorem d_MO_same_127 : decode b_MO_same 127 = .ok (.iaload, 1) := by decide +kernel
theorem d_MO_same_128 : decode b_MO_same 128 = .ok (.aload_n 0, 1) := by decide +kernel
theorem d_MO_same_129 : decode b_MO_same 129 = .ok (.getfield 19, 3) := by decide +kernel
theorem d_MO_same_132 : decode b_MO_same 132 = .ok (.iload_n 2, 1) := by decide +kernel
theorem d_MO_same_133 : decode b_MO_same 133 = .ok (.iaload, 1) := by decide +kernel
theorem d_MO_same_134 : decode b_MO_same 134 = .ok (.invokestatic 52, 3) := by decide +kernel
theorem d_MO_same_137 : decode b_MO_same 137 = .ok (.ifCond .eq 59, 3) := by decide +kernel
theorem d_MO_same_140 : decode b_MO_same 140 = .ok (.aload_n 0, 1) := by decide +kernel
theorem d_MO_same_141 : decode b_MO_same 141 = .ok (.getfield 7, 3) := by decide +kernel
theorem d_MO_same_144 : decode b_MO_same 144 = .ok (.iload 7, 2) := by decide +kernel
theorem d_MO_same_146 : decode b_MO_same 146 = .ok (.iaload, 1) := by decide +kernel
theorem d_MO_same_147 : decode b_MO_same 147 = .ok (.aload_n 0, 1) := by decide +kernel
theorem d_MO_same_148 : decode b_MO_same 148 = .ok (.getfield 19, 3) := by decide +kernel
theorem d_MO_same_151 : decode b_MO_same 151 = .ok (.iload_n 1, 1) := by decide +kernel
theorem d_MO_same_152 : decode b_MO_same 152 = .ok (.iaload, 1) := by decide +kernel
theorem d_MO_same_153 : decode b_MO_same 153 = .ok (.invokestatic 74, 3) := by decide +kernel
theorem d_MO_same_156 : decode b_MO_same 156 = .ok (.aload_n 0, 1) := by decide +kernel
theorem d_MO_same_157 : decode b_MO_same 157 = .ok (.getfield 7, 3) := by decide +kernel
theorem d_MO_same_160 : decode b_MO_same 160 = .ok (.iload 9, 2) := by decide +kernel
theorem d_MO_same_162 : decode b_MO_same 162 = .ok (.iaload, 1) := by decide +kernel
theorem d_MO_same_163 : decode b_MO_same 163 = .ok (.aload_n 0, 1) := by decide +kernel
theorem d_MO_same_164 : decode b_MO_same 164 = .ok (.getfield 19, 3) := by decide +kernel
theorem d_MO_same_167 : decode b_MO_same 167 = .ok (.iload_n 2, 1) := by decide +kernel
theorem d_MO_same_168 : decode b_MO_same 168 = .ok (.iaload, 1) := by decide +kernel
theorem d_MO_same_169 : decode b_MO_same 169 = .ok (.invokestatic 74, 3) := by decide +kernel
theorem d_MO_same_172 : decode b_MO_same 172 = .ok (.if_icmp .ne 24, 3) := by decide +kernel
theorem d_MO_same_175 : decode b_MO_same 175 = .ok (.aload_n 0, 1) := by decide +kernel
theorem d_MO_same_176 : decode b_MO_same 176 = .ok (.getfield 13, 3) := by decide +kernel
theorem d_MO_same_179 : decode b_MO_same 179 = .ok (.iload 7, 2) := by decide +kernel
theorem d_MO_same_181 : decode b_MO_same 181 = .ok (.iaload, 1) := by decide +kernel
theorem d_MO_same_182 : decode b_MO_same 182 = .ok (.aload_n 0, 1) := by decide +kernel
theorem d_MO_same_183 : decode b_MO_same 183 = .ok (.getfield 13, 3) := by decide +kernel
theorem d_MO_same_186 : decode b_MO_same 186 = .ok (.iload 9, 2) := by decide +kernel
theorem d_MO_same_188 : decode b_MO_same 188 = .ok (.iaload, 1) := by decide +kernel
theorem d_MO_same_189 : decode b_MO_same 189 = .ok (.if_icmp .ne 7, 3) := by decide +kernel
theorem d_MO_same_192 : decode b_MO_same 192 = .ok (.iconst 1, 1) := by decide +kernel
theorem d_MO_same_193 : decode b_MO_same 193 = .ok (.goto 4, 3) := by decide +kernel
theorem d_MO_same_196 : decode b_MO_same 196 = .ok (.iconst 0, 1) := by decide +kernel
theorem d_MO_same_197 : decode b_MO_same 197 = .ok (.istore 8, 2) := by decide +kernel
theorem d_MO_same_199 : decode b_MO_same 199 = .ok (.iinc 9 1, 3) := by decide +kernel
theorem d_MO_same_202 : decode b_MO_same 202 = .ok (.goto (-104), 3) := by decide +kernel
theorem d_MO_same_205 : decode b_MO_same 205 = .ok (.iload 8, 2) := by decide +kernel
theorem d_MO_same_207 : decode b_MO_same 207 = .ok (.ifCond .ne 5, 3) := by decide +kernel
theorem d_MO_same_210 : decode b_MO_same 210 = .ok (.iconst 0, 1) := by decide +kernel
theorem d_MO_same_211 : decode b_MO_same 211 = .ok (.ireturn, 1) := by decide +kernel
theorem d_MO_same_212 : decode b_MO_same 212 = .ok (.iinc 7 1, 3) := by decide +kernel
theorem d_MO_same_215 : decode b_MO_same 215 = .ok (.goto (-162), 3) := by decide +kernel
theorem d_MO_same_218 : decode b_MO_same 218 = .ok (.iconst 1, 1) := by decide +kernel
theorem d_MO_same_219 : decode b_MO_same 219 = .ok (.ireturn, 1) := by decide +kernel
theorem d_MO_stands_0 : decode b_MO_stands 0 = .ok (.iload_n 1, 1) := by decide +kernel
theorem d_MO_stands_1 : decode b_MO_stands 1 = .ok (.bipush 16, 2) := by decide +kernel
theorem d_MO_stands_3 : decode b_MO_stands 3 = .ok (.idiv, 1) := by decide +kernel
theorem d_MO_stands_4 : decode b_MO_stands 4 = .ok (.aload_n 0, 1) := by decide +kernel
theorem d_MO_stands_5 : decode b_MO_stands 5 = .ok (.getfield 109, 3) := by decide +kernel
theorem d_MO_stands_8 : decode b_MO_stands 8 = .ok (.if_icmp .gt 19, 3) := by decide +kernel
theorem d_MO_stands_11 : decode b_MO_stands 11 = .ok (.iload_n 1, 1) := by decide +kernel
theorem d_MO_stands_12 : decode b_MO_stands 12 = .ok (.bipush 16, 2) := by decide +kernel
theorem d_MO_stands_14 : decode b_MO_stands 14 = .ok (.irem, 1) := by decide +kernel
theorem d_MO_stands_15 : decode b_MO_stands 15 = .ok (.aload_n 0, 1) := by decide +kernel
theorem d_MO_stands_16 : decode b_MO_stands 16 = .ok (.getfield 26, 3) := by decide +kernel
theorem d_MO_stands_19 : decode b_MO_stands 19 = .ok (.iload_n 1, 1) := by decide +kernel
theorem d_MO_stands_20 : decode b_MO_stands 20 = .ok (.bipush 16, 2) := by decide +kernel
theorem d_MO_stands_22 : decode b_MO_stands 22 = .ok (.idiv, 1) := by decide +kernel
theorem d_MO_stands_23 : decode b_MO_stands 23 = .ok (.iaload, 1) := by decide +kernel
theorem d_MO_stands_24 : decode b_MO_stands 24 = .ok (.if_icmp .lt 5, 3) := by decide +kernel
theorem d_MO_stands_27 : decode b_MO_stands 27 = .ok (.iconst 0, 1) := by decide +kernel
theorem d_MO_stands_28 : decode b_MO_stands 28 = .ok (.ireturn, 1) := by decide +kernel
theorem d_MO_stands_29 : decode b_MO_stands 29 = .ok (.bipush 16, 2) := by decide +kernel
theorem d_MO_stands_31 : decode b_MO_stands 31 = .ok (.istore_n 2, 1) := by decide +kernel
theorem d_MO_stands_32 : decode b_MO_stands 32 = .ok (.iload_n 2, 1) := by decide +kernel
theorem d_MO_stands_33 : decode b_MO_stands 33 = .ok (.iload_n 1, 1) := by decide +kernel
theorem d_MO_stands_34 : decode b_MO_stands 34 = .ok (.if_icmp .ge 36, 3) := by decide +kernel
theorem d_MO_stands_37 : decode b_MO_stands 37 = .ok (.iload_n 2, 1) := by decide +kernel
theorem d_MO_stands_38 : decode b_MO_stands 38 = .ok (.bipush 16, 2) := by decide +kernel
theorem d_MO_stands_40 : decode b_MO_stands 40 = .ok (.irem, 1) := by decide +kernel
theorem d_MO_stands_41 : decode b_MO_stands 41 = .ok (.aload_n 0, 1) := by decide +kernel
theorem d_MO_stands_42 : decode b_MO_stands 42 = .ok (.getfield 26, 3) := by decide +kernel
theorem d_MO_stands_45 : decode b_MO_stands 45 = .ok (.iload_n 2, 1) := by decide +kernel
theorem d_MO_stands_46 : decode b_MO_stands 46 = .ok (.bipush 16, 2) := by decide +kernel
theorem d_MO_stands_48 : decode b_MO_stands 48 = .ok (.idiv, 1) := by decide +kernel
theorem d_MO_stands_49 : decode b_MO_stands 49 = .ok (.iaload, 1) := by decide +kernel
theorem d_MO_stands_50 : decode b_MO_stands 50 = .ok (.if_icmp .ge 14, 3) := by decide +kernel
theorem d_MO_stands_53 : decode b_MO_stands 53 = .ok (.aload_n 0, 1) := by decide +kernel
theorem d_MO_stands_54 : decode b_MO_stands 54 = .ok (.iload_n 1, 1) := by decide +kernel
theorem d_MO_stands_55 : decode b_MO_stands 55 = .ok (.iload_n 2, 1) := by decide +kernel
theorem d_MO_stands_56 : decode b_MO_stands 56 = .ok (.invokevirtual 112, 3) := by decide +kernel
theorem d_MO_stands_59 : decode b_MO_stands 59 = .ok (.ifCond .eq 5, 3) := by decide +kernel
theorem d_MO_stands_62 : decode b_MO_stands 62 = .ok (.iconst 0, 1) := by decide +kernel
theorem d_MO_stands_63 : decode b_MO_stands 63 = .ok (.ireturn, 1) := by decide +kernel
theorem d_MO_stands_64 : decode b_MO_stands 64 = .ok (.iinc 2 1, 3) := by decide +kernel
theorem d_MO_stands_67 : decode b_MO_stands 67 = .ok (.goto (-35), 3) := by decide +kernel
theorem d_MO_stands_70 : decode b_MO_stands 70 = .ok (.iconst 1, 1) := by decide +kernel
theorem d_MO_stands_71 : decode b_MO_stands 71 = .ok (.ireturn, 1) := by decide +kernel
theorem d_MO_has_0 : decode b_MO_has 0 = .ok (.iconst 0, 1) := by decide +kernel
theorem d_MO_has_1 : decode b_MO_has 1 = .ok (.istore_n 2, 1) := by decide +kernel
theorem d_MO_has_2 : decode b_MO_has 2 = .ok (.iload_n 2, 1) := by decide +kernel
theorem d_MO_has_3 : decode b_MO_has 3 = .ok (.bipush 16, 2) := by decide +kernel
theorem d_MO_has_5 : decode b_MO_has 5 = .ok (.aload_n 0, 1) := by decide +kernel
theorem d_MO_has_6 : decode b_MO_has 6 = .ok (.getfield 109, 3) := by decide +kernel
theorem d_MO_has_9 : decode b_MO_has 9 = .ok (.iconst 1, 1) := by decide +kernel
theorem d_MO_has_10 : decode b_MO_has 10 = .ok (.iadd, 1) := by decide +kernel
theorem d_MO_has_11 : decode b_MO_has 11 = .ok (.imul, 1) := by decide +kernel
theorem d_MO_has_12 : decode b_MO_has 12 = .ok (.if_icmp .ge 65, 3) := by decide +kernel
theorem d_MO_has_15 : decode b_MO_has 15 = .ok (.iload_n 2, 1) := by decide +kernel
theorem d_MO_has_16 : decode b_MO_has 16 = .ok (.bipush 16, 2) := by decide +kernel
theorem d_MO_has_18 : decode b_MO_has 18 = .ok (.if_icmp .ge 16, 3) := by decide +kernel
theorem d_MO_has_21 : decode b_MO_has 21 = .ok (.iload_n 2, 1) := by decide +kernel
theorem d_MO_has_22 : decode b_MO_has 22 = .ok (.iload_n 1, 1) := by decide +kernel
theorem d_MO_has_23 : decode b_MO_has 23 = .ok (.if_icmp .ge 7, 3) := by decide +kernel
theorem d_MO_has_26 : decode b_MO_has 26 = .ok (.iconst 1, 1) := by decide +kernel
theorem d_MO_has_27 : decode b_MO_has 27 = .ok (.goto 28, 3) := by decide +kernel
theorem d_MO_has_30 : decode b_MO_has 30 = .ok (.iconst 0, 1) := by decide +kernel
theorem d_MO_has_31 : decode b_MO_has 31 = .ok (.goto 24, 3) := by decide +kernel
theorem d_MO_has_34 : decode b_MO_has 34 = .ok (.iload_n 2, 1) := by decide +kernel
theorem d_MO_has_35 : decode b_MO_has 35 = .ok (.bipush 16, 2) := by decide +kernel
theorem d_MO_has_37 : decode b_MO_has 37 = .ok (.irem, 1) := by decide +kernel
theorem d_MO_has_38 : decode b_MO_has 38 = .ok (.aload_n 0, 1) := by decide +kernel
theorem d_MO_has_39 : decode b_MO_has 39 = .ok (.getfield 26, 3) := by decide +kernel
theorem d_MO_has_42 : decode b_MO_has 42 = .ok (.iload_n 2, 1) := by decide +kernel
theorem d_MO_has_43 : decode b_MO_has 43 = .ok (.bipush 16, 2) := by decide +kernel
theorem d_MO_has_45 : decode b_MO_has 45 = .ok (.idiv, 1) := by decide +kernel
theorem d_MO_has_46 : decode b_MO_has 46 = .ok (.iaload, 1) := by decide +kernel
theorem d_MO_has_47 : decode b_MO_has 47 = .ok (.if_icmp .ge 7, 3) := by decide +kernel
theorem d_MO_has_50 : decode b_MO_has 50 = .ok (.iconst 1, 1) := by decide +kernel
theorem d_MO_has_51 : decode b_MO_has 51 = .ok (.goto 4, 3) := by decide +kernel
theorem d_MO_has_54 : decode b_MO_has 54 = .ok (.iconst 0, 1) := by decide +kernel
theorem d_MO_has_55 : decode b_MO_has 55 = .ok (.istore_n 3, 1) := by decide +kernel
theorem d_MO_has_56 : decode b_MO_has 56 = .ok (.iload_n 3, 1) := by decide +kernel
theorem d_MO_has_57 : decode b_MO_has 57 = .ok (.ifCond .eq 14, 3) := by decide +kernel
theorem d_MO_has_60 : decode b_MO_has 60 = .ok (.aload_n 0, 1) := by decide +kernel
theorem d_MO_has_61 : decode b_MO_has 61 = .ok (.iload_n 1, 1) := by decide +kernel
theorem d_MO_has_62 : decode b_MO_has 62 = .ok (.iload_n 2, 1) := by decide +kernel
theorem d_MO_has_63 : decode b_MO_has 63 = .ok (.invokevirtual 112, 3) := by decide +kernel
theorem d_MO_has_66 : decode b_MO_has 66 = .ok (.ifCond .eq 5, 3) := by decide +kernel
theorem d_MO_has_69 : decode b_MO_has 69 = .ok (.iconst 1, 1) := by decide +kernel
theorem d_MO_has_70 : decode b_MO_has 70 = .ok (.ireturn, 1) := by decide +kernel
theorem d_MO_has_71 : decode b_MO_has 71 = .ok (.iinc 2 1, 3) := by decide +kernel
theorem d_MO_has_74 : decode b_MO_has 74 = .ok (.goto (-72), 3) := by decide +kernel
theorem d_MO_has_77 : decode b_MO_has 77 = .ok (.iconst 0, 1) := by decide +kernel
theorem d_MO_has_78 : decode b_MO_has 78 = .ok (.ireturn, 1) := by decide +kernel
theorem d_MO_back_0 : decode b_MO_back 0 = .ok (.aload_n 0, 1) := by decide +kernel
theorem d_MO_back_1 : decode b_MO_back 1 = .ok (.getfield 109, 3) := by decide +kernel
theorem d_MO_back_4 : decode b_MO_back 4 = .ok (.ifCond .ne 13, 3) := by decide +kernel
theorem d_MO_back_7 : decode b_MO_back 7 = .ok (.aload_n 0, 1) := by decide +kernel
theorem d_MO_back_8 : decode b_MO_back 8 = .ok (.getfield 16, 3) := by decide +kernel
theorem d_MO_back_11 : decode b_MO_back 11 = .ok (.iconst 0, 1) := by decide +kernel
theorem d_MO_back_12 : decode b_MO_back 12 = .ok (.iconst 0, 1) := by decide +kernel
theorem d_MO_back_13 : decode b_MO_back 13 = .ok (.iastore, 1) := by decide +kernel
theorem d_MO_back_14 : decode b_MO_back 14 = .ok (.goto 9, 3) := by decide +kernel
theorem d_MO_back_17 : decode b_MO_back 17 = .ok (.aload_n 0, 1) := by decide +kernel
theorem d_MO_back_18 : decode b_MO_back 18 = .ok (.iconst 1, 1) := by decide +kernel
theorem d_MO_back_19 : decode b_MO_back 19 = .ok (.iconst 0, 1) := by decide +kernel
theorem d_MO_back_20 : decode b_MO_back 20 = .ok (.invokevirtual 115, 3) := by decide +kernel
theorem d_MO_back_23 : decode b_MO_back 23 = .ok (.return_, 1) := by decide +kernel
theorem d_MO_commit_0 : decode b_MO_commit 0 = .ok (.aload_n 0, 1) := by decide +kernel
theorem d_MO_commit_1 : decode b_MO_commit 1 = .ok (.iconst 0, 1) := by decide +kernel
theorem d_MO_commit_2 : decode b_MO_commit 2 = .ok (.invokevirtual 101, 3) := by decide +kernel
theorem d_MO_commit_5 : decode b_MO_commit 5 = .ok (.iconst 0, 1) := by decide +kernel
theorem d_MO_commit_6 : decode b_MO_commit 6 = .ok (.istore_n 2, 1) := by decide +kernel
theorem d_MO_commit_7 : decode b_MO_commit 7 = .ok (.iconst 0, 1) := by decide +kernel
theorem d_MO_commit_8 : decode b_MO_commit 8 = .ok (.istore_n 3, 1) := by decide +kernel
theorem d_MO_commit_9 : decode b_MO_commit 9 = .ok (.iload_n 3, 1) := by decide +kernel
theorem d_MO_commit_10 : decode b_MO_commit 10 = .ok (.aload_n 0, 1) := by decide +kernel
theorem d_MO_commit_11 : decode b_MO_commit 11 = .ok (.getfield 26, 3) := by decide +kernel
theorem d_MO_commit_14 : decode b_MO_commit 14 = .ok (.iconst 0, 1) := by decide +kernel
theorem d_MO_commit_15 : decode b_MO_commit 15 = .ok (.iaload, 1) := by decide +kernel
theorem d_MO_commit_16 : decode b_MO_commit 16 = .ok (.if_icmp .ge 25, 3) := by decide +kernel
theorem d_MO_commit_19 : decode b_MO_commit 19 = .ok (.aload_n 0, 1) := by decide +kernel
theorem d_MO_commit_20 : decode b_MO_commit 20 = .ok (.iload_n 3, 1) := by decide +kernel
theorem d_MO_commit_21 : decode b_MO_commit 21 = .ok (.invokevirtual 118, 3) := by decide +kernel
theorem d_MO_commit_24 : decode b_MO_commit 24 = .ok (.ifCond .eq 7, 3) := by decide +kernel
theorem d_MO_commit_27 : decode b_MO_commit 27 = .ok (.iload_n 2, 1) := by decide +kernel
theorem d_MO_commit_28 : decode b_MO_commit 28 = .ok (.goto 6, 3) := by decide +kernel
theorem d_MO_commit_31 : decode b_MO_commit 31 = .ok (.iload_n 2, 1) := by decide +kernel
theorem d_MO_commit_32 : decode b_MO_commit 32 = .ok (.iconst 1, 1) := by decide +kernel
theorem d_MO_commit_33 : decode b_MO_commit 33 = .ok (.iadd, 1) := by decide +kernel
theorem d_MO_commit_34 : decode b_MO_commit 34 = .ok (.istore_n 2, 1) := by decide +kernel
theorem d_MO_commit_35 : decode b_MO_commit 35 = .ok (.iinc 3 1, 3) := by decide +kernel
theorem d_MO_commit_38 : decode b_MO_commit 38 = .ok (.goto (-29), 3) := by decide +kernel
theorem d_MO_commit_41 : decode b_MO_commit 41 = .ok (.iload_n 1, 1) := by decide +kernel
theorem d_MO_commit_42 : decode b_MO_commit 42 = .ok (.iload_n 2, 1) := by decide +kernel
theorem d_MO_commit_43 : decode b_MO_commit 43 = .ok (.iconst 1, 1) := by decide +kernel
theorem d_MO_commit_44 : decode b_MO_commit 44 = .ok (.iadd, 1) := by decide +kernel
theorem d_MO_commit_45 : decode b_MO_commit 45 = .ok (.if_icmp .ge 9, 3) := by decide +kernel
theorem d_MO_commit_48 : decode b_MO_commit 48 = .ok (.aload_n 0, 1) := by decide +kernel
theorem d_MO_commit_49 : decode b_MO_commit 49 = .ok (.invokevirtual 122, 3) := by decide +kernel
theorem d_MO_commit_52 : decode b_MO_commit 52 = .ok (.iconst (-1), 1) := by decide +kernel
theorem d_MO_commit_53 : decode b_MO_commit 53 = .ok (.ireturn, 1) := by decide +kernel
theorem d_MO_commit_54 : decode b_MO_commit 54 = .ok (.aload_n 0, 1) := by decide +kernel
theorem d_MO_commit_55 : decode b_MO_commit 55 = .ok (.aload_n 0, 1) := by decide +kernel
theorem d_MO_commit_56 : decode b_MO_commit 56 = .ok (.getfield 109, 3) := by decide +kernel
theorem d_MO_commit_59 : decode b_MO_commit 59 = .ok (.aload_n 0, 1) := by decide +kernel
theorem d_MO_commit_60 : decode b_MO_commit 60 = .ok (.getfield 35, 3) := by decide +kernel
theorem d_MO_commit_63 : decode b_MO_commit 63 = .ok (.if_icmp .ge 12, 3) := by decide +kernel
theorem d_MO_commit_66 : decode b_MO_commit 66 = .ok (.aload_n 0, 1) := by decide +kernel
theorem d_MO_commit_67 : decode b_MO_commit 67 = .ok (.getfield 109, 3) := by decide +kernel
theorem d_MO_commit_70 : decode b_MO_commit 70 = .ok (.iconst 1, 1) := by decide +kernel
theorem d_MO_commit_71 : decode b_MO_commit 71 = .ok (.iadd, 1) := by decide +kernel
theorem d_MO_commit_72 : decode b_MO_commit 72 = .ok (.goto 7, 3) := by decide +kernel
theorem d_MO_commit_75 : decode b_MO_commit 75 = .ok (.aload_n 0, 1) := by decide +kernel
theorem d_MO_commit_76 : decode b_MO_commit 76 = .ok (.getfield 109, 3) := by decide +kernel
theorem d_MO_commit_79 : decode b_MO_commit 79 = .ok (.putfield 109, 3) := by decide +kernel
theorem d_MO_commit_82 : decode b_MO_commit 82 = .ok (.aload_n 0, 1) := by decide +kernel
theorem d_MO_commit_83 : decode b_MO_commit 83 = .ok (.getfield 109, 3) := by decide +kernel
theorem d_MO_commit_86 : decode b_MO_commit 86 = .ok (.istore_n 3, 1) := by decide +kernel
theorem d_MO_commit_87 : decode b_MO_commit 87 = .ok (.iload_n 3, 1) := by decide +kernel
theorem d_MO_commit_88 : decode b_MO_commit 88 = .ok (.ifCond .le 17, 3) := by decide +kernel
theorem d_MO_commit_91 : decode b_MO_commit 91 = .ok (.aload_n 0, 1) := by decide +kernel
theorem d_MO_commit_92 : decode b_MO_commit 92 = .ok (.iload_n 3, 1) := by decide +kernel
theorem d_MO_commit_93 : decode b_MO_commit 93 = .ok (.iconst 1, 1) := by decide +kernel
theorem d_MO_commit_94 : decode b_MO_commit 94 = .ok (.isub, 1) := by decide +kernel
theorem d_MO_commit_95 : decode b_MO_commit 95 = .ok (.iload_n 3, 1) := by decide +kernel
theorem d_MO_commit_96 : decode b_MO_commit 96 = .ok (.invokevirtual 115, 3) := by decide +kernel
theorem d_MO_commit_99 : decode b_MO_commit 99 = .ok (.iinc 3 (-1), 3) := by decide +kernel
theorem d_MO_commit_102 : decode b_MO_commit 102 = .ok (.goto (-15), 3) := by decide +kernel
theorem d_MO_commit_105 : decode b_MO_commit 105 = .ok (.iload_n 2, 1) := by decide +kernel
theorem d_MO_commit_106 : decode b_MO_commit 106 = .ok (.ireturn, 1) := by decide +kernel
theorem d_MO_crash_0 : decode b_MO_crash 0 = .ok (.aload_n 0, 1) := by decide +kernel
theorem d_MO_crash_1 : decode b_MO_crash 1 = .ok (.invokevirtual 122, 3) := by decide +kernel
theorem d_MO_crash_4 : decode b_MO_crash 4 = .ok (.aload_n 0, 1) := by decide +kernel
theorem d_MO_crash_5 : decode b_MO_crash 5 = .ok (.getfield 16, 3) := by decide +kernel
theorem d_MO_crash_8 : decode b_MO_crash 8 = .ok (.iconst 0, 1) := by decide +kernel
theorem d_MO_crash_9 : decode b_MO_crash 9 = .ok (.iaload, 1) := by decide +kernel
theorem d_MO_crash_10 : decode b_MO_crash 10 = .ok (.ireturn, 1) := by decide +kernel
theorem d_MO_versions_0 : decode b_MO_versions 0 = .ok (.aload_n 0, 1) := by decide +kernel
theorem d_MO_versions_1 : decode b_MO_versions 1 = .ok (.getfield 109, 3) := by decide +kernel
theorem d_MO_versions_4 : decode b_MO_versions 4 = .ok (.ireturn, 1) := by decide +kernel
theorem d_MO_isVersion_0 : decode b_MO_isVersion 0 = .ok (.iload_n 1, 1) := by decide +kernel
theorem d_MO_isVersion_1 : decode b_MO_isVersion 1 = .ok (.ifCond .lt 15, 3) := by decide +kernel
theorem d_MO_isVersion_4 : decode b_MO_isVersion 4 = .ok (.iload_n 1, 1) := by decide +kernel
theorem d_MO_isVersion_5 : decode b_MO_isVersion 5 = .ok (.aload_n 0, 1) := by decide +kernel
theorem d_MO_isVersion_6 : decode b_MO_isVersion 6 = .ok (.getfield 109, 3) := by decide +kernel
theorem d_MO_isVersion_9 : decode b_MO_isVersion 9 = .ok (.if_icmp .ge 7, 3) := by decide +kernel
theorem d_MO_isVersion_12 : decode b_MO_isVersion 12 = .ok (.iconst 1, 1) := by decide +kernel
theorem d_MO_isVersion_13 : decode b_MO_isVersion 13 = .ok (.goto 4, 3) := by decide +kernel
theorem d_MO_isVersion_16 : decode b_MO_isVersion 16 = .ok (.iconst 0, 1) := by decide +kernel
theorem d_MO_isVersion_17 : decode b_MO_isVersion 17 = .ok (.ireturn, 1) := by decide +kernel
theorem d_MO_at_0 : decode b_MO_at 0 = .ok (.aload_n 0, 1) := by decide +kernel
theorem d_MO_at_1 : decode b_MO_at 1 = .ok (.iload_n 1, 1) := by decide +kernel
theorem d_MO_at_2 : decode b_MO_at 2 = .ok (.invokevirtual 125, 3) := by decide +kernel
theorem d_MO_at_5 : decode b_MO_at 5 = .ok (.ifCond .eq 14, 3) := by decide +kernel
theorem d_MO_at_8 : decode b_MO_at 8 = .ok (.aload_n 0, 1) := by decide +kernel
theorem d_MO_at_9 : decode b_MO_at 9 = .ok (.iload_n 1, 1) := by decide +kernel
theorem d_MO_at_10 : decode b_MO_at 10 = .ok (.iconst 1, 1) := by decide +kernel
theorem d_MO_at_11 : decode b_MO_at 11 = .ok (.iadd, 1) := by decide +kernel
theorem d_MO_at_12 : decode b_MO_at 12 = .ok (.iload_n 2, 1) := by decide +kernel
theorem d_MO_at_13 : decode b_MO_at 13 = .ok (.invokevirtual 49, 3) := by decide +kernel
theorem d_MO_at_16 : decode b_MO_at 16 = .ok (.goto 4, 3) := by decide +kernel
theorem d_MO_at_19 : decode b_MO_at 19 = .ok (.iconst 0, 1) := by decide +kernel
theorem d_MO_at_20 : decode b_MO_at 20 = .ok (.ireturn, 1) := by decide +kernel
theorem d_MO_rootAt_0 : decode b_MO_rootAt 0 = .ok (.aload_n 0, 1) := by decide +kernel
theorem d_MO_rootAt_1 : decode b_MO_rootAt 1 = .ok (.iload_n 1, 1) := by decide +kernel
theorem d_MO_rootAt_2 : decode b_MO_rootAt 2 = .ok (.invokevirtual 125, 3) := by decide +kernel
theorem d_MO_rootAt_5 : decode b_MO_rootAt 5 = .ok (.ifCond .ne 5, 3) := by decide +kernel
theorem d_MO_rootAt_8 : decode b_MO_rootAt 8 = .ok (.lconst 0, 1) := by decide +kernel
theorem d_MO_rootAt_9 : decode b_MO_rootAt 9 = .ok (.lreturn, 1) := by decide +kernel
theorem d_MO_rootAt_10 : decode b_MO_rootAt 10 = .ok (.aload_n 0, 1) := by decide +kernel
theorem d_MO_rootAt_11 : decode b_MO_rootAt 11 = .ok (.iload_n 1, 1) := by decide +kernel
theorem d_MO_rootAt_12 : decode b_MO_rootAt 12 = .ok (.iconst 1, 1) := by decide +kernel
theorem d_MO_rootAt_13 : decode b_MO_rootAt 13 = .ok (.iadd, 1) := by decide +kernel
theorem d_MO_rootAt_14 : decode b_MO_rootAt 14 = .ok (.invokevirtual 105, 3) := by decide +kernel
theorem d_MO_rootAt_17 : decode b_MO_rootAt 17 = .ok (.lreturn, 1) := by decide +kernel
theorem d_MO_stored_0 : decode b_MO_stored 0 = .ok (.iconst 0, 1) := by decide +kernel
theorem d_MO_stored_1 : decode b_MO_stored 1 = .ok (.istore_n 1, 1) := by decide +kernel
theorem d_MO_stored_2 : decode b_MO_stored 2 = .ok (.bipush 16, 2) := by decide +kernel
theorem d_MO_stored_4 : decode b_MO_stored 4 = .ok (.istore_n 2, 1) := by decide +kernel
theorem d_MO_stored_5 : decode b_MO_stored 5 = .ok (.iload_n 2, 1) := by decide +kernel
theorem d_MO_stored_6 : decode b_MO_stored 6 = .ok (.bipush 64, 2) := by decide +kernel
theorem d_MO_stored_8 : decode b_MO_stored 8 = .ok (.if_icmp .ge 25, 3) := by decide +kernel
theorem d_MO_stored_11 : decode b_MO_stored 11 = .ok (.aload_n 0, 1) := by decide +kernel
theorem d_MO_stored_12 : decode b_MO_stored 12 = .ok (.iload_n 2, 1) := by decide +kernel
theorem d_MO_stored_13 : decode b_MO_stored 13 = .ok (.invokevirtual 128, 3) := by decide +kernel
theorem d_MO_stored_16 : decode b_MO_stored 16 = .ok (.ifCond .eq 9, 3) := by decide +kernel
theorem d_MO_stored_19 : decode b_MO_stored 19 = .ok (.iload_n 1, 1) := by decide +kernel
theorem d_MO_stored_20 : decode b_MO_stored 20 = .ok (.iconst 1, 1) := by decide +kernel
theorem d_MO_stored_21 : decode b_MO_stored 21 = .ok (.iadd, 1) := by decide +kernel
theorem d_MO_stored_22 : decode b_MO_stored 22 = .ok (.goto 4, 3) := by decide +kernel
theorem d_MO_stored_25 : decode b_MO_stored 25 = .ok (.iload_n 1, 1) := by decide +kernel
theorem d_MO_stored_26 : decode b_MO_stored 26 = .ok (.istore_n 1, 1) := by decide +kernel
theorem d_MO_stored_27 : decode b_MO_stored 27 = .ok (.iinc 2 1, 3) := by decide +kernel
theorem d_MO_stored_30 : decode b_MO_stored 30 = .ok (.goto (-25), 3) := by decide +kernel
theorem d_MO_stored_33 : decode b_MO_stored 33 = .ok (.iload_n 1, 1) := by decide +kernel
theorem d_MO_stored_34 : decode b_MO_stored 34 = .ok (.ireturn, 1) := by decide +kernel
theorem d_MO_leads_0 : decode b_MO_leads 0 = .ok (.aload_n 0, 1) := by decide +kernel
theorem d_MO_leads_1 : decode b_MO_leads 1 = .ok (.iload_n 1, 1) := by decide +kernel
theorem d_MO_leads_2 : decode b_MO_leads 2 = .ok (.iload_n 2, 1) := by decide +kernel
theorem d_MO_leads_3 : decode b_MO_leads 3 = .ok (.invokevirtual 56, 3) := by decide +kernel
theorem d_MO_leads_6 : decode b_MO_leads 6 = .ok (.istore 4, 2) := by decide +kernel
theorem d_MO_leads_8 : decode b_MO_leads 8 = .ok (.iload 4, 2) := by decide +kernel
theorem d_MO_leads_10 : decode b_MO_leads 10 = .ok (.iconst 2, 1) := by decide +kernel
theorem d_MO_leads_11 : decode b_MO_leads 11 = .ok (.if_icmp .ge 5, 3) := by decide +kernel
theorem d_MO_leads_14 : decode b_MO_leads 14 = .ok (.iconst 0, 1) := by decide +kernel
theorem d_MO_leads_15 : decode b_MO_leads 15 = .ok (.ireturn, 1) := by decide +kernel
theorem d_MO_leads_16 : decode b_MO_leads 16 = .ok (.aload_n 0, 1) := by decide +kernel
theorem d_MO_leads_17 : decode b_MO_leads 17 = .ok (.iload_n 1, 1) := by decide +kernel
theorem d_MO_leads_18 : decode b_MO_leads 18 = .ok (.iload_n 2, 1) := by decide +kernel
theorem d_MO_leads_19 : decode b_MO_leads 19 = .ok (.invokevirtual 62, 3) := by decide +kernel
theorem d_MO_leads_22 : decode b_MO_leads 22 = .ok (.istore 5, 2) := by decide +kernel
theorem d_MO_leads_24 : decode b_MO_leads 24 = .ok (.aload_n 0, 1) := by decide +kernel
theorem d_MO_leads_25 : decode b_MO_leads 25 = .ok (.iload_n 1, 1) := by decide +kernel
theorem d_MO_leads_26 : decode b_MO_leads 26 = .ok (.iload 5, 2) := by decide +kernel
theorem d_MO_leads_28 : decode b_MO_leads 28 = .ok (.invokevirtual 77, 3) := by decide +kernel
theorem d_MO_leads_31 : decode b_MO_leads 31 = .ok (.istore 6, 2) := by decide +kernel
theorem d_MO_leads_33 : decode b_MO_leads 33 = .ok (.aload_n 0, 1) := by decide +kernel
theorem d_MO_leads_34 : decode b_MO_leads 34 = .ok (.iload_n 3, 1) := by decide +kernel
theorem d_MO_leads_35 : decode b_MO_leads 35 = .ok (.iload 6, 2) := by decide +kernel
theorem d_MO_leads_37 : decode b_MO_leads 37 = .ok (.invokevirtual 112, 3) := by decide +kernel
theorem d_MO_leads_40 : decode b_MO_leads 40 = .ok (.ireturn, 1) := by decide +kernel
theorem d_MO_usesOf_0 : decode b_MO_usesOf 0 = .ok (.iconst 0, 1) := by decide +kernel
theorem d_MO_usesOf_1 : decode b_MO_usesOf 1 = .ok (.istore_n 2, 1) := by decide +kernel
theorem d_MO_usesOf_2 : decode b_MO_usesOf 2 = .ok (.iconst 1, 1) := by decide +kernel
theorem d_MO_usesOf_3 : decode b_MO_usesOf 3 = .ok (.istore_n 3, 1) := by decide +kernel
theorem d_MO_usesOf_4 : decode b_MO_usesOf 4 = .ok (.iload_n 3, 1) := by decide +kernel
theorem d_MO_usesOf_5 : decode b_MO_usesOf 5 = .ok (.aload_n 0, 1) := by decide +kernel
theorem d_MO_usesOf_6 : decode b_MO_usesOf 6 = .ok (.getfield 109, 3) := by decide +kernel
theorem d_MO_usesOf_9 : decode b_MO_usesOf 9 = .ok (.if_icmp .gt 27, 3) := by decide +kernel
theorem d_MO_usesOf_12 : decode b_MO_usesOf 12 = .ok (.aload_n 0, 1) := by decide +kernel
theorem d_MO_usesOf_13 : decode b_MO_usesOf 13 = .ok (.iload_n 3, 1) := by decide +kernel
theorem d_MO_usesOf_14 : decode b_MO_usesOf 14 = .ok (.iconst 1, 1) := by decide +kernel
theorem d_MO_usesOf_15 : decode b_MO_usesOf 15 = .ok (.iload_n 1, 1) := by decide +kernel
theorem d_MO_usesOf_16 : decode b_MO_usesOf 16 = .ok (.invokevirtual 131, 3) := by decide +kernel
theorem d_MO_usesOf_19 : decode b_MO_usesOf 19 = .ok (.ifCond .eq 9, 3) := by decide +kernel
theorem d_MO_usesOf_22 : decode b_MO_usesOf 22 = .ok (.iload_n 2, 1) := by decide +kernel
theorem d_MO_usesOf_23 : decode b_MO_usesOf 23 = .ok (.iconst 1, 1) := by decide +kernel
theorem d_MO_usesOf_24 : decode b_MO_usesOf 24 = .ok (.iadd, 1) := by decide +kernel
theorem d_MO_usesOf_25 : decode b_MO_usesOf 25 = .ok (.goto 4, 3) := by decide +kernel
theorem d_MO_usesOf_28 : decode b_MO_usesOf 28 = .ok (.iload_n 2, 1) := by decide +kernel
theorem d_MO_usesOf_29 : decode b_MO_usesOf 29 = .ok (.istore_n 2, 1) := by decide +kernel
theorem d_MO_usesOf_30 : decode b_MO_usesOf 30 = .ok (.iinc 3 1, 3) := by decide +kernel
theorem d_MO_usesOf_33 : decode b_MO_usesOf 33 = .ok (.goto (-29), 3) := by decide +kernel
theorem d_MO_usesOf_36 : decode b_MO_usesOf 36 = .ok (.bipush 16, 2) := by decide +kernel
theorem d_MO_usesOf_38 : decode b_MO_usesOf 38 = .ok (.istore_n 3, 1) := by decide +kernel
theorem d_MO_usesOf_39 : decode b_MO_usesOf 39 = .ok (.iload_n 3, 1) := by decide +kernel
theorem d_MO_usesOf_40 : decode b_MO_usesOf 40 = .ok (.bipush 64, 2) := by decide +kernel
theorem d_MO_usesOf_42 : decode b_MO_usesOf 42 = .ok (.if_icmp .ge 69, 3) := by decide +kernel
theorem d_MO_usesOf_45 : decode b_MO_usesOf 45 = .ok (.aload_n 0, 1) := by decide +kernel
theorem d_MO_usesOf_46 : decode b_MO_usesOf 46 = .ok (.iload_n 3, 1) := by decide +kernel
theorem d_MO_usesOf_47 : decode b_MO_usesOf 47 = .ok (.invokevirtual 128, 3) := by decide +kernel
theorem d_MO_usesOf_50 : decode b_MO_usesOf 50 = .ok (.istore 4, 2) := by decide +kernel
theorem d_MO_usesOf_52 : decode b_MO_usesOf 52 = .ok (.iconst 0, 1) := by decide +kernel
theorem d_MO_usesOf_53 : decode b_MO_usesOf 53 = .ok (.istore 5, 2) := by decide +kernel
theorem d_MO_usesOf_55 : decode b_MO_usesOf 55 = .ok (.iload 5, 2) := by decide +kernel
theorem d_MO_usesOf_57 : decode b_MO_usesOf 57 = .ok (.bipush 16, 2) := by decide +kernel
theorem d_MO_usesOf_59 : decode b_MO_usesOf 59 = .ok (.if_icmp .ge 46, 3) := by decide +kernel
theorem d_MO_usesOf_62 : decode b_MO_usesOf 62 = .ok (.iload 4, 2) := by decide +kernel
theorem d_MO_usesOf_64 : decode b_MO_usesOf 64 = .ok (.ifCond .eq 41, 3) := by decide +kernel
theorem d_MO_usesOf_67 : decode b_MO_usesOf 67 = .ok (.aload_n 0, 1) := by decide +kernel
theorem d_MO_usesOf_68 : decode b_MO_usesOf 68 = .ok (.iload_n 3, 1) := by decide +kernel
theorem d_MO_usesOf_69 : decode b_MO_usesOf 69 = .ok (.bipush 16, 2) := by decide +kernel
theorem d_MO_usesOf_71 : decode b_MO_usesOf 71 = .ok (.idiv, 1) := by decide +kernel
theorem d_MO_usesOf_72 : decode b_MO_usesOf 72 = .ok (.bipush 16, 2) := by decide +kernel
theorem d_MO_usesOf_74 : decode b_MO_usesOf 74 = .ok (.aload_n 0, 1) := by decide +kernel
theorem d_MO_usesOf_75 : decode b_MO_usesOf 75 = .ok (.getfield 19, 3) := by decide +kernel
theorem d_MO_usesOf_78 : decode b_MO_usesOf 78 = .ok (.iload_n 3, 1) := by decide +kernel
theorem d_MO_usesOf_79 : decode b_MO_usesOf 79 = .ok (.iaload, 1) := by decide +kernel
theorem d_MO_usesOf_80 : decode b_MO_usesOf 80 = .ok (.imul, 1) := by decide +kernel
theorem d_MO_usesOf_81 : decode b_MO_usesOf 81 = .ok (.iload 5, 2) := by decide +kernel
theorem d_MO_usesOf_83 : decode b_MO_usesOf 83 = .ok (.iadd, 1) := by decide +kernel
theorem d_MO_usesOf_84 : decode b_MO_usesOf 84 = .ok (.iload_n 1, 1) := by decide +kernel
theorem d_MO_usesOf_85 : decode b_MO_usesOf 85 = .ok (.invokevirtual 131, 3) := by decide +kernel
theorem d_MO_usesOf_88 : decode b_MO_usesOf 88 = .ok (.ifCond .eq 9, 3) := by decide +kernel
theorem d_MO_usesOf_91 : decode b_MO_usesOf 91 = .ok (.iload_n 2, 1) := by decide +kernel
theorem d_MO_usesOf_92 : decode b_MO_usesOf 92 = .ok (.iconst 1, 1) := by decide +kernel
theorem d_MO_usesOf_93 : decode b_MO_usesOf 93 = .ok (.iadd, 1) := by decide +kernel
theorem d_MO_usesOf_94 : decode b_MO_usesOf 94 = .ok (.goto 4, 3) := by decide +kernel
theorem d_MO_usesOf_97 : decode b_MO_usesOf 97 = .ok (.iload_n 2, 1) := by decide +kernel
theorem d_MO_usesOf_98 : decode b_MO_usesOf 98 = .ok (.istore_n 2, 1) := by decide +kernel
theorem d_MO_usesOf_99 : decode b_MO_usesOf 99 = .ok (.iinc 5 1, 3) := by decide +kernel
theorem d_MO_usesOf_102 : decode b_MO_usesOf 102 = .ok (.goto (-47), 3) := by decide +kernel
theorem d_MO_usesOf_105 : decode b_MO_usesOf 105 = .ok (.iinc 3 1, 3) := by decide +kernel
theorem d_MO_usesOf_108 : decode b_MO_usesOf 108 = .ok (.goto (-69), 3) := by decide +kernel
theorem d_MO_usesOf_111 : decode b_MO_usesOf 111 = .ok (.iload_n 2, 1) := by decide +kernel
theorem d_MO_usesOf_112 : decode b_MO_usesOf 112 = .ok (.ireturn, 1) := by decide +kernel
theorem d_MO_uses_0 : decode b_MO_uses 0 = .ok (.iconst 0, 1) := by decide +kernel
theorem d_MO_uses_1 : decode b_MO_uses 1 = .ok (.istore_n 3, 1) := by decide +kernel
theorem d_MO_uses_2 : decode b_MO_uses 2 = .ok (.bipush 16, 2) := by decide +kernel
theorem d_MO_uses_4 : decode b_MO_uses 4 = .ok (.istore 4, 2) := by decide +kernel
theorem d_MO_uses_6 : decode b_MO_uses 6 = .ok (.iload 4, 2) := by decide +kernel
theorem d_MO_uses_8 : decode b_MO_uses 8 = .ok (.bipush 64, 2) := by decide +kernel
theorem d_MO_uses_10 : decode b_MO_uses 10 = .ok (.if_icmp .ge 39, 3) := by decide +kernel
theorem d_MO_uses_13 : decode b_MO_uses 13 = .ok (.aload_n 0, 1) := by decide +kernel
theorem d_MO_uses_14 : decode b_MO_uses 14 = .ok (.iload 4, 2) := by decide +kernel
theorem d_MO_uses_16 : decode b_MO_uses 16 = .ok (.invokevirtual 128, 3) := by decide +kernel
theorem d_MO_uses_19 : decode b_MO_uses 19 = .ok (.ifCond .eq 24, 3) := by decide +kernel
theorem d_MO_uses_22 : decode b_MO_uses 22 = .ok (.aload_n 0, 1) := by decide +kernel
theorem d_MO_uses_23 : decode b_MO_uses 23 = .ok (.getfield 22, 3) := by decide +kernel
theorem d_MO_uses_26 : decode b_MO_uses 26 = .ok (.iload 4, 2) := by decide +kernel
theorem d_MO_uses_28 : decode b_MO_uses 28 = .ok (.laload, 1) := by decide +kernel
theorem d_MO_uses_29 : decode b_MO_uses 29 = .ok (.lload_n 1, 1) := by decide +kernel
theorem d_MO_uses_30 : decode b_MO_uses 30 = .ok (.lcmp, 1) := by decide +kernel
theorem d_MO_uses_31 : decode b_MO_uses 31 = .ok (.ifCond .ne 12, 3) := by decide +kernel
theorem d_MO_uses_34 : decode b_MO_uses 34 = .ok (.iload_n 3, 1) := by decide +kernel
theorem d_MO_uses_35 : decode b_MO_uses 35 = .ok (.aload_n 0, 1) := by decide +kernel
theorem d_MO_uses_36 : decode b_MO_uses 36 = .ok (.iload 4, 2) := by decide +kernel
theorem d_MO_uses_38 : decode b_MO_uses 38 = .ok (.invokevirtual 135, 3) := by decide +kernel
theorem d_MO_uses_41 : decode b_MO_uses 41 = .ok (.iadd, 1) := by decide +kernel
theorem d_MO_uses_42 : decode b_MO_uses 42 = .ok (.istore_n 3, 1) := by decide +kernel
theorem d_MO_uses_43 : decode b_MO_uses 43 = .ok (.iinc 4 1, 3) := by decide +kernel
theorem d_MO_uses_46 : decode b_MO_uses 46 = .ok (.goto (-40), 3) := by decide +kernel
theorem d_MO_uses_49 : decode b_MO_uses 49 = .ok (.iload_n 3, 1) := by decide +kernel
theorem d_MO_uses_50 : decode b_MO_uses 50 = .ok (.ireturn, 1) := by decide +kernel
theorem d_MO_append_0 : decode b_MO_append 0 = .ok (.iconst 0, 1) := by decide +kernel
theorem d_MO_append_1 : decode b_MO_append 1 = .ok (.istore_n 1, 1) := by decide +kernel
theorem d_MO_append_2 : decode b_MO_append 2 = .ok (.iload_n 1, 1) := by decide +kernel
theorem d_MO_append_3 : decode b_MO_append 3 = .ok (.aload_n 0, 1) := by decide +kernel
theorem d_MO_append_4 : decode b_MO_append 4 = .ok (.getfield 65, 3) := by decide +kernel
theorem d_MO_append_7 : decode b_MO_append 7 = .ok (.if_icmp .ge 34, 3) := by decide +kernel
theorem d_MO_append_10 : decode b_MO_append 10 = .ok (.aload_n 0, 1) := by decide +kernel
theorem d_MO_append_11 : decode b_MO_append 11 = .ok (.getfield 32, 3) := by decide +kernel
theorem d_MO_append_14 : decode b_MO_append 14 = .ok (.aload_n 0, 1) := by decide +kernel
theorem d_MO_append_15 : decode b_MO_append 15 = .ok (.getfield 138, 3) := by decide +kernel
theorem d_MO_append_18 : decode b_MO_append 18 = .ok (.aload_n 0, 1) := by decide +kernel
end
section
theorem d_MO_append_19 : decode b_MO_append 19 = .ok (.getfield 29, 3) := by decide +kernel
theorem d_MO_append_22 : decode b_MO_append 22 = .ok (.iload_n 1, 1) := by decide +kernel
theorem d_MO_append_23 : decode b_MO_append 23 = .ok (.laload, 1) := by decide +kernel
theorem d_MO_append_24 : decode b_MO_append 24 = .ok (.lastore, 1) := by decide +kernel
theorem d_MO_append_25 : decode b_MO_append 25 = .ok (.aload_n 0, 1) := by decide +kernel
theorem d_MO_append_26 : decode b_MO_append 26 = .ok (.dup, 1) := by decide +kernel
theorem d_MO_append_27 : decode b_MO_append 27 = .ok (.getfield 138, 3) := by decide +kernel
theorem d_MO_append_30 : decode b_MO_append 30 = .ok (.iconst 1, 1) := by decide +kernel
theorem d_MO_append_31 : decode b_MO_append 31 = .ok (.iadd, 1) := by decide +kernel
theorem d_MO_append_32 : decode b_MO_append 32 = .ok (.putfield 138, 3) := by decide +kernel
theorem d_MO_append_35 : decode b_MO_append 35 = .ok (.iinc 1 1, 3) := by decide +kernel
theorem d_MO_append_38 : decode b_MO_append 38 = .ok (.goto (-36), 3) := by decide +kernel
theorem d_MO_append_41 : decode b_MO_append 41 = .ok (.return_, 1) := by decide +kernel
theorem d_MO_prove_0 : decode b_MO_prove 0 = .ok (.iload_n 2, 1) := by decide +kernel
theorem d_MO_prove_1 : decode b_MO_prove 1 = .ok (.invokestatic 41, 3) := by decide +kernel
theorem d_MO_prove_4 : decode b_MO_prove 4 = .ok (.istore_n 3, 1) := by decide +kernel
theorem d_MO_prove_5 : decode b_MO_prove 5 = .ok (.aload_n 0, 1) := by decide +kernel
theorem d_MO_prove_6 : decode b_MO_prove 6 = .ok (.iload_n 1, 1) := by decide +kernel
theorem d_MO_prove_7 : decode b_MO_prove 7 = .ok (.invokevirtual 125, 3) := by decide +kernel
theorem d_MO_prove_10 : decode b_MO_prove 10 = .ok (.ifCond .eq 7, 3) := by decide +kernel
theorem d_MO_prove_13 : decode b_MO_prove 13 = .ok (.iload_n 3, 1) := by decide +kernel
theorem d_MO_prove_14 : decode b_MO_prove 14 = .ok (.ifCond .ge 5, 3) := by decide +kernel
theorem d_MO_prove_17 : decode b_MO_prove 17 = .ok (.iconst (-1), 1) := by decide +kernel
theorem d_MO_prove_18 : decode b_MO_prove 18 = .ok (.ireturn, 1) := by decide +kernel
theorem d_MO_prove_19 : decode b_MO_prove 19 = .ok (.aload_n 0, 1) := by decide +kernel
theorem d_MO_prove_20 : decode b_MO_prove 20 = .ok (.iconst 0, 1) := by decide +kernel
theorem d_MO_prove_21 : decode b_MO_prove 21 = .ok (.putfield 138, 3) := by decide +kernel
theorem d_MO_prove_24 : decode b_MO_prove 24 = .ok (.aload_n 0, 1) := by decide +kernel
theorem d_MO_prove_25 : decode b_MO_prove 25 = .ok (.iconst 0, 1) := by decide +kernel
theorem d_MO_prove_26 : decode b_MO_prove 26 = .ok (.putfield 65, 3) := by decide +kernel
theorem d_MO_prove_29 : decode b_MO_prove 29 = .ok (.aload_n 0, 1) := by decide +kernel
theorem d_MO_prove_30 : decode b_MO_prove 30 = .ok (.iload_n 1, 1) := by decide +kernel
theorem d_MO_prove_31 : decode b_MO_prove 31 = .ok (.iconst 1, 1) := by decide +kernel
theorem d_MO_prove_32 : decode b_MO_prove 32 = .ok (.iadd, 1) := by decide +kernel
theorem d_MO_prove_33 : decode b_MO_prove 33 = .ok (.iconst 1, 1) := by decide +kernel
theorem d_MO_prove_34 : decode b_MO_prove 34 = .ok (.iconst 1, 1) := by decide +kernel
theorem d_MO_prove_35 : decode b_MO_prove 35 = .ok (.invokevirtual 80, 3) := by decide +kernel
theorem d_MO_prove_38 : decode b_MO_prove 38 = .ok (.aload_n 0, 1) := by decide +kernel
theorem d_MO_prove_39 : decode b_MO_prove 39 = .ok (.invokevirtual 141, 3) := by decide +kernel
theorem d_MO_prove_42 : decode b_MO_prove 42 = .ok (.iconst 0, 1) := by decide +kernel
theorem d_MO_prove_43 : decode b_MO_prove 43 = .ok (.istore 4, 2) := by decide +kernel
theorem d_MO_prove_45 : decode b_MO_prove 45 = .ok (.iload 4, 2) := by decide +kernel
theorem d_MO_prove_47 : decode b_MO_prove 47 = .ok (.iload_n 3, 1) := by decide +kernel
theorem d_MO_prove_48 : decode b_MO_prove 48 = .ok (.if_icmp .gt 49, 3) := by decide +kernel
theorem d_MO_prove_51 : decode b_MO_prove 51 = .ok (.iload_n 2, 1) := by decide +kernel
theorem d_MO_prove_52 : decode b_MO_prove 52 = .ok (.iconst 4, 1) := by decide +kernel
theorem d_MO_prove_53 : decode b_MO_prove 53 = .ok (.iload_n 3, 1) := by decide +kernel
theorem d_MO_prove_54 : decode b_MO_prove 54 = .ok (.iload 4, 2) := by decide +kernel
theorem d_MO_prove_56 : decode b_MO_prove 56 = .ok (.isub, 1) := by decide +kernel
theorem d_MO_prove_57 : decode b_MO_prove 57 = .ok (.imul, 1) := by decide +kernel
theorem d_MO_prove_58 : decode b_MO_prove 58 = .ok (.ishr, 1) := by decide +kernel
theorem d_MO_prove_59 : decode b_MO_prove 59 = .ok (.istore 5, 2) := by decide +kernel
theorem d_MO_prove_61 : decode b_MO_prove 61 = .ok (.aload_n 0, 1) := by decide +kernel
theorem d_MO_prove_62 : decode b_MO_prove 62 = .ok (.iload_n 1, 1) := by decide +kernel
theorem d_MO_prove_63 : decode b_MO_prove 63 = .ok (.iconst 1, 1) := by decide +kernel
theorem d_MO_prove_64 : decode b_MO_prove 64 = .ok (.iadd, 1) := by decide +kernel
theorem d_MO_prove_65 : decode b_MO_prove 65 = .ok (.iload 5, 2) := by decide +kernel
theorem d_MO_prove_67 : decode b_MO_prove 67 = .ok (.invokevirtual 77, 3) := by decide +kernel
theorem d_MO_prove_70 : decode b_MO_prove 70 = .ok (.ifCond .lt 21, 3) := by decide +kernel
theorem d_MO_prove_73 : decode b_MO_prove 73 = .ok (.aload_n 0, 1) := by decide +kernel
theorem d_MO_prove_74 : decode b_MO_prove 74 = .ok (.iconst 0, 1) := by decide +kernel
theorem d_MO_prove_75 : decode b_MO_prove 75 = .ok (.putfield 65, 3) := by decide +kernel
theorem d_MO_prove_78 : decode b_MO_prove 78 = .ok (.aload_n 0, 1) := by decide +kernel
theorem d_MO_prove_79 : decode b_MO_prove 79 = .ok (.iload_n 1, 1) := by decide +kernel
theorem d_MO_prove_80 : decode b_MO_prove 80 = .ok (.iconst 1, 1) := by decide +kernel
theorem d_MO_prove_81 : decode b_MO_prove 81 = .ok (.iadd, 1) := by decide +kernel
theorem d_MO_prove_82 : decode b_MO_prove 82 = .ok (.iload 5, 2) := by decide +kernel
theorem d_MO_prove_84 : decode b_MO_prove 84 = .ok (.invokevirtual 93, 3) := by decide +kernel
theorem d_MO_prove_87 : decode b_MO_prove 87 = .ok (.aload_n 0, 1) := by decide +kernel
theorem d_MO_prove_88 : decode b_MO_prove 88 = .ok (.invokevirtual 141, 3) := by decide +kernel
theorem d_MO_prove_91 : decode b_MO_prove 91 = .ok (.iinc 4 1, 3) := by decide +kernel
theorem d_MO_prove_94 : decode b_MO_prove 94 = .ok (.goto (-49), 3) := by decide +kernel
theorem d_MO_prove_97 : decode b_MO_prove 97 = .ok (.aload_n 0, 1) := by decide +kernel
theorem d_MO_prove_98 : decode b_MO_prove 98 = .ok (.getfield 138, 3) := by decide +kernel
theorem d_MO_prove_101 : decode b_MO_prove 101 = .ok (.ireturn, 1) := by decide +kernel
theorem d_MO_word_0 : decode b_MO_word 0 = .ok (.iload_n 1, 1) := by decide +kernel
theorem d_MO_word_1 : decode b_MO_word 1 = .ok (.ifCond .lt 20, 3) := by decide +kernel
theorem d_MO_word_4 : decode b_MO_word 4 = .ok (.iload_n 1, 1) := by decide +kernel
theorem d_MO_word_5 : decode b_MO_word 5 = .ok (.aload_n 0, 1) := by decide +kernel
theorem d_MO_word_6 : decode b_MO_word 6 = .ok (.getfield 138, 3) := by decide +kernel
theorem d_MO_word_9 : decode b_MO_word 9 = .ok (.if_icmp .ge 12, 3) := by decide +kernel
theorem d_MO_word_12 : decode b_MO_word 12 = .ok (.aload_n 0, 1) := by decide +kernel
theorem d_MO_word_13 : decode b_MO_word 13 = .ok (.getfield 32, 3) := by decide +kernel
theorem d_MO_word_16 : decode b_MO_word 16 = .ok (.iload_n 1, 1) := by decide +kernel
theorem d_MO_word_17 : decode b_MO_word 17 = .ok (.laload, 1) := by decide +kernel
theorem d_MO_word_18 : decode b_MO_word 18 = .ok (.goto 4, 3) := by decide +kernel
theorem d_MO_word_21 : decode b_MO_word 21 = .ok (.lconst 0, 1) := by decide +kernel
theorem d_MO_word_22 : decode b_MO_word 22 = .ok (.lreturn, 1) := by decide +kernel
theorem d_MO_alter_0 : decode b_MO_alter 0 = .ok (.iload_n 1, 1) := by decide +kernel
theorem d_MO_alter_1 : decode b_MO_alter 1 = .ok (.ifCond .lt 11, 3) := by decide +kernel
theorem d_MO_alter_4 : decode b_MO_alter 4 = .ok (.iload_n 1, 1) := by decide +kernel
theorem d_MO_alter_5 : decode b_MO_alter 5 = .ok (.aload_n 0, 1) := by decide +kernel
theorem d_MO_alter_6 : decode b_MO_alter 6 = .ok (.getfield 138, 3) := by decide +kernel
theorem d_MO_alter_9 : decode b_MO_alter 9 = .ok (.if_icmp .lt 5, 3) := by decide +kernel
theorem d_MO_alter_12 : decode b_MO_alter 12 = .ok (.iconst 0, 1) := by decide +kernel
theorem d_MO_alter_13 : decode b_MO_alter 13 = .ok (.ireturn, 1) := by decide +kernel
theorem d_MO_alter_14 : decode b_MO_alter 14 = .ok (.aload_n 0, 1) := by decide +kernel
theorem d_MO_alter_15 : decode b_MO_alter 15 = .ok (.getfield 32, 3) := by decide +kernel
theorem d_MO_alter_18 : decode b_MO_alter 18 = .ok (.iload_n 1, 1) := by decide +kernel
theorem d_MO_alter_19 : decode b_MO_alter 19 = .ok (.lload_n 2, 1) := by decide +kernel
theorem d_MO_alter_20 : decode b_MO_alter 20 = .ok (.lastore, 1) := by decide +kernel
theorem d_MO_alter_21 : decode b_MO_alter 21 = .ok (.iconst 1, 1) := by decide +kernel
theorem d_MO_alter_22 : decode b_MO_alter 22 = .ok (.ireturn, 1) := by decide +kernel
theorem d_MO_cut_0 : decode b_MO_cut 0 = .ok (.aload_n 0, 1) := by decide +kernel
theorem d_MO_cut_1 : decode b_MO_cut 1 = .ok (.aload_n 0, 1) := by decide +kernel
theorem d_MO_cut_2 : decode b_MO_cut 2 = .ok (.getfield 138, 3) := by decide +kernel
theorem d_MO_cut_5 : decode b_MO_cut 5 = .ok (.ifCond .ne 7, 3) := by decide +kernel
theorem d_MO_cut_8 : decode b_MO_cut 8 = .ok (.iconst 0, 1) := by decide +kernel
theorem d_MO_cut_9 : decode b_MO_cut 9 = .ok (.goto 9, 3) := by decide +kernel
theorem d_MO_cut_12 : decode b_MO_cut 12 = .ok (.aload_n 0, 1) := by decide +kernel
theorem d_MO_cut_13 : decode b_MO_cut 13 = .ok (.getfield 138, 3) := by decide +kernel
theorem d_MO_cut_16 : decode b_MO_cut 16 = .ok (.iconst 1, 1) := by decide +kernel
theorem d_MO_cut_17 : decode b_MO_cut 17 = .ok (.isub, 1) := by decide +kernel
theorem d_MO_cut_18 : decode b_MO_cut 18 = .ok (.putfield 138, 3) := by decide +kernel
theorem d_MO_cut_21 : decode b_MO_cut 21 = .ok (.aload_n 0, 1) := by decide +kernel
theorem d_MO_cut_22 : decode b_MO_cut 22 = .ok (.getfield 138, 3) := by decide +kernel
theorem d_MO_cut_25 : decode b_MO_cut 25 = .ok (.ireturn, 1) := by decide +kernel
theorem d_MO_few_0 : decode b_MO_few 0 = .ok (.lload_n 0, 1) := by decide +kernel
theorem d_MO_few_1 : decode b_MO_few 1 = .ok (.lconst 0, 1) := by decide +kernel
theorem d_MO_few_2 : decode b_MO_few 2 = .ok (.lcmp, 1) := by decide +kernel
theorem d_MO_few_3 : decode b_MO_few 3 = .ok (.ifCond .lt 15, 3) := by decide +kernel
theorem d_MO_few_6 : decode b_MO_few 6 = .ok (.lload_n 0, 1) := by decide +kernel
theorem d_MO_few_7 : decode b_MO_few 7 = .ok (.ldc2_w 72, 3) := by decide +kernel
theorem d_MO_few_10 : decode b_MO_few 10 = .ok (.lcmp, 1) := by decide +kernel
theorem d_MO_few_11 : decode b_MO_few 11 = .ok (.ifCond .gt 7, 3) := by decide +kernel
theorem d_MO_few_14 : decode b_MO_few 14 = .ok (.iconst 1, 1) := by decide +kernel
theorem d_MO_few_15 : decode b_MO_few 15 = .ok (.goto 4, 3) := by decide +kernel
theorem d_MO_few_18 : decode b_MO_few 18 = .ok (.iconst 0, 1) := by decide +kernel
theorem d_MO_few_19 : decode b_MO_few 19 = .ok (.ireturn, 1) := by decide +kernel
theorem d_MO_digestOf_0 : decode b_MO_digestOf 0 = .ok (.iload_n 2, 1) := by decide +kernel
theorem d_MO_digestOf_1 : decode b_MO_digestOf 1 = .ok (.iload_n 1, 1) := by decide +kernel
theorem d_MO_digestOf_2 : decode b_MO_digestOf 2 = .ok (.isub, 1) := by decide +kernel
theorem d_MO_digestOf_3 : decode b_MO_digestOf 3 = .ok (.i2l, 1) := by decide +kernel
theorem d_MO_digestOf_4 : decode b_MO_digestOf 4 = .ok (.lstore_n 3, 1) := by decide +kernel
theorem d_MO_digestOf_5 : decode b_MO_digestOf 5 = .ok (.iload_n 1, 1) := by decide +kernel
theorem d_MO_digestOf_6 : decode b_MO_digestOf 6 = .ok (.istore 5, 2) := by decide +kernel
theorem d_MO_digestOf_8 : decode b_MO_digestOf 8 = .ok (.iload 5, 2) := by decide +kernel
theorem d_MO_digestOf_10 : decode b_MO_digestOf 10 = .ok (.iload_n 2, 1) := by decide +kernel
theorem d_MO_digestOf_11 : decode b_MO_digestOf 11 = .ok (.if_icmp .ge 21, 3) := by decide +kernel
theorem d_MO_digestOf_14 : decode b_MO_digestOf 14 = .ok (.lload_n 3, 1) := by decide +kernel
theorem d_MO_digestOf_15 : decode b_MO_digestOf 15 = .ok (.aload_n 0, 1) := by decide +kernel
theorem d_MO_digestOf_16 : decode b_MO_digestOf 16 = .ok (.getfield 32, 3) := by decide +kernel
theorem d_MO_digestOf_19 : decode b_MO_digestOf 19 = .ok (.iload 5, 2) := by decide +kernel
theorem d_MO_digestOf_21 : decode b_MO_digestOf 21 = .ok (.laload, 1) := by decide +kernel
theorem d_MO_digestOf_22 : decode b_MO_digestOf 22 = .ok (.invokestatic 86, 3) := by decide +kernel
theorem d_MO_digestOf_25 : decode b_MO_digestOf 25 = .ok (.lstore_n 3, 1) := by decide +kernel
theorem d_MO_digestOf_26 : decode b_MO_digestOf 26 = .ok (.iinc 5 1, 3) := by decide +kernel
theorem d_MO_digestOf_29 : decode b_MO_digestOf 29 = .ok (.goto (-21), 3) := by decide +kernel
theorem d_MO_digestOf_32 : decode b_MO_digestOf 32 = .ok (.lload_n 3, 1) := by decide +kernel
theorem d_MO_digestOf_33 : decode b_MO_digestOf 33 = .ok (.lreturn, 1) := by decide +kernel
theorem d_MO_refer_0 : decode b_MO_refer 0 = .ok (.aload_n 0, 1) := by decide +kernel
theorem d_MO_refer_1 : decode b_MO_refer 1 = .ok (.iload_n 2, 1) := by decide +kernel
theorem d_MO_refer_2 : decode b_MO_refer 2 = .ok (.putfield 144, 3) := by decide +kernel
theorem d_MO_refer_5 : decode b_MO_refer 5 = .ok (.iload_n 1, 1) := by decide +kernel
theorem d_MO_refer_6 : decode b_MO_refer 6 = .ok (.iload_n 2, 1) := by decide +kernel
theorem d_MO_refer_7 : decode b_MO_refer 7 = .ok (.iadd, 1) := by decide +kernel
theorem d_MO_refer_8 : decode b_MO_refer 8 = .ok (.aload_n 0, 1) := by decide +kernel
theorem d_MO_refer_9 : decode b_MO_refer 9 = .ok (.getfield 138, 3) := by decide +kernel
theorem d_MO_refer_12 : decode b_MO_refer 12 = .ok (.if_icmp .le 5, 3) := by decide +kernel
theorem d_MO_refer_15 : decode b_MO_refer 15 = .ok (.iconst 0, 1) := by decide +kernel
theorem d_MO_refer_16 : decode b_MO_refer 16 = .ok (.ireturn, 1) := by decide +kernel
theorem d_MO_refer_17 : decode b_MO_refer 17 = .ok (.aload_n 0, 1) := by decide +kernel
theorem d_MO_refer_18 : decode b_MO_refer 18 = .ok (.iload_n 2, 1) := by decide +kernel
theorem d_MO_refer_19 : decode b_MO_refer 19 = .ok (.ifCond .le 12, 3) := by decide +kernel
theorem d_MO_refer_22 : decode b_MO_refer 22 = .ok (.aload_n 0, 1) := by decide +kernel
theorem d_MO_refer_23 : decode b_MO_refer 23 = .ok (.getfield 32, 3) := by decide +kernel
theorem d_MO_refer_26 : decode b_MO_refer 26 = .ok (.iload_n 1, 1) := by decide +kernel
theorem d_MO_refer_27 : decode b_MO_refer 27 = .ok (.laload, 1) := by decide +kernel
theorem d_MO_refer_28 : decode b_MO_refer 28 = .ok (.goto 4, 3) := by decide +kernel
theorem d_MO_refer_31 : decode b_MO_refer 31 = .ok (.lconst 0, 1) := by decide +kernel
theorem d_MO_refer_32 : decode b_MO_refer 32 = .ok (.putfield 147, 3) := by decide +kernel
theorem d_MO_refer_35 : decode b_MO_refer 35 = .ok (.aload_n 0, 1) := by decide +kernel
theorem d_MO_refer_36 : decode b_MO_refer 36 = .ok (.iload_n 2, 1) := by decide +kernel
theorem d_MO_refer_37 : decode b_MO_refer 37 = .ok (.iconst 1, 1) := by decide +kernel
theorem d_MO_refer_38 : decode b_MO_refer 38 = .ok (.if_icmp .le 14, 3) := by decide +kernel
theorem d_MO_refer_41 : decode b_MO_refer 41 = .ok (.aload_n 0, 1) := by decide +kernel
theorem d_MO_refer_42 : decode b_MO_refer 42 = .ok (.getfield 32, 3) := by decide +kernel
theorem d_MO_refer_45 : decode b_MO_refer 45 = .ok (.iload_n 1, 1) := by decide +kernel
theorem d_MO_refer_46 : decode b_MO_refer 46 = .ok (.iconst 1, 1) := by decide +kernel
theorem d_MO_refer_47 : decode b_MO_refer 47 = .ok (.iadd, 1) := by decide +kernel
theorem d_MO_refer_48 : decode b_MO_refer 48 = .ok (.laload, 1) := by decide +kernel
theorem d_MO_refer_49 : decode b_MO_refer 49 = .ok (.goto 4, 3) := by decide +kernel
theorem d_MO_refer_52 : decode b_MO_refer 52 = .ok (.lconst 0, 1) := by decide +kernel
theorem d_MO_refer_53 : decode b_MO_refer 53 = .ok (.putfield 151, 3) := by decide +kernel
theorem d_MO_refer_56 : decode b_MO_refer 56 = .ok (.iconst 1, 1) := by decide +kernel
theorem d_MO_refer_57 : decode b_MO_refer 57 = .ok (.ireturn, 1) := by decide +kernel
theorem d_MO_branchEnd_0 : decode b_MO_branchEnd 0 = .ok (.aload_n 0, 1) := by decide +kernel
theorem d_MO_branchEnd_1 : decode b_MO_branchEnd 1 = .ok (.getfield 154, 3) := by decide +kernel
theorem d_MO_branchEnd_4 : decode b_MO_branchEnd 4 = .ok (.istore_n 1, 1) := by decide +kernel
theorem d_MO_branchEnd_5 : decode b_MO_branchEnd 5 = .ok (.iconst 0, 1) := by decide +kernel
theorem d_MO_branchEnd_6 : decode b_MO_branchEnd 6 = .ok (.istore_n 2, 1) := by decide +kernel
theorem d_MO_branchEnd_7 : decode b_MO_branchEnd 7 = .ok (.iload_n 2, 1) := by decide +kernel
theorem d_MO_branchEnd_8 : decode b_MO_branchEnd 8 = .ok (.bipush 16, 2) := by decide +kernel
theorem d_MO_branchEnd_10 : decode b_MO_branchEnd 10 = .ok (.if_icmp .ge 43, 3) := by decide +kernel
theorem d_MO_branchEnd_13 : decode b_MO_branchEnd 13 = .ok (.iload_n 1, 1) := by decide +kernel
theorem d_MO_branchEnd_14 : decode b_MO_branchEnd 14 = .ok (.aload_n 0, 1) := by decide +kernel
theorem d_MO_branchEnd_15 : decode b_MO_branchEnd 15 = .ok (.getfield 138, 3) := by decide +kernel
theorem d_MO_branchEnd_18 : decode b_MO_branchEnd 18 = .ok (.if_icmp .ge 15, 3) := by decide +kernel
theorem d_MO_branchEnd_21 : decode b_MO_branchEnd 21 = .ok (.aload_n 0, 1) := by decide +kernel
theorem d_MO_branchEnd_22 : decode b_MO_branchEnd 22 = .ok (.getfield 32, 3) := by decide +kernel
theorem d_MO_branchEnd_25 : decode b_MO_branchEnd 25 = .ok (.iload_n 1, 1) := by decide +kernel
theorem d_MO_branchEnd_26 : decode b_MO_branchEnd 26 = .ok (.laload, 1) := by decide +kernel
theorem d_MO_branchEnd_27 : decode b_MO_branchEnd 27 = .ok (.invokestatic 157, 3) := by decide +kernel
theorem d_MO_branchEnd_30 : decode b_MO_branchEnd 30 = .ok (.ifCond .ne 5, 3) := by decide +kernel
theorem d_MO_branchEnd_33 : decode b_MO_branchEnd 33 = .ok (.iconst (-1), 1) := by decide +kernel
theorem d_MO_branchEnd_34 : decode b_MO_branchEnd 34 = .ok (.ireturn, 1) := by decide +kernel
theorem d_MO_branchEnd_35 : decode b_MO_branchEnd 35 = .ok (.iload_n 1, 1) := by decide +kernel
theorem d_MO_branchEnd_36 : decode b_MO_branchEnd 36 = .ok (.iconst 1, 1) := by decide +kernel
theorem d_MO_branchEnd_37 : decode b_MO_branchEnd 37 = .ok (.iadd, 1) := by decide +kernel
theorem d_MO_branchEnd_38 : decode b_MO_branchEnd 38 = .ok (.aload_n 0, 1) := by decide +kernel
theorem d_MO_branchEnd_39 : decode b_MO_branchEnd 39 = .ok (.getfield 32, 3) := by decide +kernel
theorem d_MO_branchEnd_42 : decode b_MO_branchEnd 42 = .ok (.iload_n 1, 1) := by decide +kernel
theorem d_MO_branchEnd_43 : decode b_MO_branchEnd 43 = .ok (.laload, 1) := by decide +kernel
theorem d_MO_branchEnd_44 : decode b_MO_branchEnd 44 = .ok (.l2i, 1) := by decide +kernel
theorem d_MO_branchEnd_45 : decode b_MO_branchEnd 45 = .ok (.iadd, 1) := by decide +kernel
theorem d_MO_branchEnd_46 : decode b_MO_branchEnd 46 = .ok (.istore_n 1, 1) := by decide +kernel
theorem d_MO_branchEnd_47 : decode b_MO_branchEnd 47 = .ok (.iinc 2 1, 3) := by decide +kernel
theorem d_MO_branchEnd_50 : decode b_MO_branchEnd 50 = .ok (.goto (-43), 3) := by decide +kernel
theorem d_MO_branchEnd_53 : decode b_MO_branchEnd 53 = .ok (.iload_n 1, 1) := by decide +kernel
theorem d_MO_branchEnd_54 : decode b_MO_branchEnd 54 = .ok (.aload_n 0, 1) := by decide +kernel
theorem d_MO_branchEnd_55 : decode b_MO_branchEnd 55 = .ok (.getfield 138, 3) := by decide +kernel
theorem d_MO_branchEnd_58 : decode b_MO_branchEnd 58 = .ok (.if_icmp .ge 9, 3) := by decide +kernel
theorem d_MO_branchEnd_61 : decode b_MO_branchEnd 61 = .ok (.iload_n 1, 1) := by decide +kernel
theorem d_MO_branchEnd_62 : decode b_MO_branchEnd 62 = .ok (.iconst 1, 1) := by decide +kernel
theorem d_MO_branchEnd_63 : decode b_MO_branchEnd 63 = .ok (.iadd, 1) := by decide +kernel
theorem d_MO_branchEnd_64 : decode b_MO_branchEnd 64 = .ok (.goto 4, 3) := by decide +kernel
theorem d_MO_branchEnd_67 : decode b_MO_branchEnd 67 = .ok (.iconst (-1), 1) := by decide +kernel
theorem d_MO_branchEnd_68 : decode b_MO_branchEnd 68 = .ok (.ireturn, 1) := by decide +kernel
theorem d_MO_throughBranch_0 : decode b_MO_throughBranch 0 = .ok (.aload_n 0, 1) := by decide +kernel
theorem d_MO_throughBranch_1 : decode b_MO_throughBranch 1 = .ok (.invokevirtual 161, 3) := by decide +kernel
theorem d_MO_throughBranch_4 : decode b_MO_throughBranch 4 = .ok (.istore_n 1, 1) := by decide +kernel
theorem d_MO_throughBranch_5 : decode b_MO_throughBranch 5 = .ok (.iload_n 1, 1) := by decide +kernel
theorem d_MO_throughBranch_6 : decode b_MO_throughBranch 6 = .ok (.ifCond .lt 20, 3) := by decide +kernel
theorem d_MO_throughBranch_9 : decode b_MO_throughBranch 9 = .ok (.aload_n 0, 1) := by decide +kernel
theorem d_MO_throughBranch_10 : decode b_MO_throughBranch 10 = .ok (.aload_n 0, 1) := by decide +kernel
theorem d_MO_throughBranch_11 : decode b_MO_throughBranch 11 = .ok (.getfield 154, 3) := by decide +kernel
theorem d_MO_throughBranch_14 : decode b_MO_throughBranch 14 = .ok (.iload_n 1, 1) := by decide +kernel
theorem d_MO_throughBranch_15 : decode b_MO_throughBranch 15 = .ok (.invokevirtual 165, 3) := by decide +kernel
theorem d_MO_throughBranch_18 : decode b_MO_throughBranch 18 = .ok (.aload_n 0, 1) := by decide +kernel
theorem d_MO_throughBranch_19 : decode b_MO_throughBranch 19 = .ok (.getfield 147, 3) := by decide +kernel
theorem d_MO_throughBranch_22 : decode b_MO_throughBranch 22 = .ok (.lcmp, 1) := by decide +kernel
theorem d_MO_throughBranch_23 : decode b_MO_throughBranch 23 = .ok (.ifCond .eq 5, 3) := by decide +kernel
theorem d_MO_throughBranch_26 : decode b_MO_throughBranch 26 = .ok (.iconst (-1), 1) := by decide +kernel
theorem d_MO_throughBranch_27 : decode b_MO_throughBranch 27 = .ok (.ireturn, 1) := by decide +kernel
theorem d_MO_throughBranch_28 : decode b_MO_throughBranch 28 = .ok (.aload_n 0, 1) := by decide +kernel
theorem d_MO_throughBranch_29 : decode b_MO_throughBranch 29 = .ok (.getfield 169, 3) := by decide +kernel
theorem d_MO_throughBranch_32 : decode b_MO_throughBranch 32 = .ok (.invokestatic 41, 3) := by decide +kernel
theorem d_MO_throughBranch_35 : decode b_MO_throughBranch 35 = .ok (.istore_n 2, 1) := by decide +kernel
theorem d_MO_throughBranch_36 : decode b_MO_throughBranch 36 = .ok (.aload_n 0, 1) := by decide +kernel
theorem d_MO_throughBranch_37 : decode b_MO_throughBranch 37 = .ok (.getfield 154, 3) := by decide +kernel
theorem d_MO_throughBranch_40 : decode b_MO_throughBranch 40 = .ok (.istore_n 3, 1) := by decide +kernel
theorem d_MO_throughBranch_41 : decode b_MO_throughBranch 41 = .ok (.aload_n 0, 1) := by decide +kernel
theorem d_MO_throughBranch_42 : decode b_MO_throughBranch 42 = .ok (.iload_n 1, 1) := by decide +kernel
theorem d_MO_throughBranch_43 : decode b_MO_throughBranch 43 = .ok (.putfield 154, 3) := by decide +kernel
theorem d_MO_throughBranch_46 : decode b_MO_throughBranch 46 = .ok (.iload_n 2, 1) := by decide +kernel
theorem d_MO_throughBranch_47 : decode b_MO_throughBranch 47 = .ok (.ifCond .ne 17, 3) := by decide +kernel
theorem d_MO_throughBranch_50 : decode b_MO_throughBranch 50 = .ok (.aload_n 0, 1) := by decide +kernel
theorem d_MO_throughBranch_51 : decode b_MO_throughBranch 51 = .ok (.aload_n 0, 1) := by decide +kernel
theorem d_MO_throughBranch_52 : decode b_MO_throughBranch 52 = .ok (.getfield 32, 3) := by decide +kernel
theorem d_MO_throughBranch_55 : decode b_MO_throughBranch 55 = .ok (.iload_n 1, 1) := by decide +kernel
theorem d_MO_throughBranch_56 : decode b_MO_throughBranch 56 = .ok (.iconst 1, 1) := by decide +kernel
theorem d_MO_throughBranch_57 : decode b_MO_throughBranch 57 = .ok (.isub, 1) := by decide +kernel
theorem d_MO_throughBranch_58 : decode b_MO_throughBranch 58 = .ok (.laload, 1) := by decide +kernel
theorem d_MO_throughBranch_59 : decode b_MO_throughBranch 59 = .ok (.putfield 147, 3) := by decide +kernel
theorem d_MO_throughBranch_62 : decode b_MO_throughBranch 62 = .ok (.iconst 1, 1) := by decide +kernel
theorem d_MO_throughBranch_63 : decode b_MO_throughBranch 63 = .ok (.ireturn, 1) := by decide +kernel
theorem d_MO_throughBranch_64 : decode b_MO_throughBranch 64 = .ok (.aload_n 0, 1) := by decide +kernel
theorem d_MO_throughBranch_65 : decode b_MO_throughBranch 65 = .ok (.getfield 169, 3) := by decide +kernel
theorem d_MO_throughBranch_68 : decode b_MO_throughBranch 68 = .ok (.iconst 4, 1) := by decide +kernel
theorem d_MO_throughBranch_69 : decode b_MO_throughBranch 69 = .ok (.iload_n 2, 1) := by decide +kernel
theorem d_MO_throughBranch_70 : decode b_MO_throughBranch 70 = .ok (.iconst 1, 1) := by decide +kernel
theorem d_MO_throughBranch_71 : decode b_MO_throughBranch 71 = .ok (.isub, 1) := by decide +kernel
theorem d_MO_throughBranch_72 : decode b_MO_throughBranch 72 = .ok (.imul, 1) := by decide +kernel
theorem d_MO_throughBranch_73 : decode b_MO_throughBranch 73 = .ok (.ishr, 1) := by decide +kernel
theorem d_MO_throughBranch_74 : decode b_MO_throughBranch 74 = .ok (.bipush 15, 2) := by decide +kernel
theorem d_MO_throughBranch_76 : decode b_MO_throughBranch 76 = .ok (.iand, 1) := by decide +kernel
theorem d_MO_throughBranch_77 : decode b_MO_throughBranch 77 = .ok (.istore 4, 2) := by decide +kernel
theorem d_MO_throughBranch_79 : decode b_MO_throughBranch 79 = .ok (.iconst 0, 1) := by decide +kernel
theorem d_MO_throughBranch_80 : decode b_MO_throughBranch 80 = .ok (.istore 5, 2) := by decide +kernel
theorem d_MO_throughBranch_82 : decode b_MO_throughBranch 82 = .ok (.iload 5, 2) := by decide +kernel
theorem d_MO_throughBranch_84 : decode b_MO_throughBranch 84 = .ok (.iload 4, 2) := by decide +kernel
theorem d_MO_throughBranch_86 : decode b_MO_throughBranch 86 = .ok (.if_icmp .ge 21, 3) := by decide +kernel
theorem d_MO_throughBranch_89 : decode b_MO_throughBranch 89 = .ok (.iload_n 3, 1) := by decide +kernel
theorem d_MO_throughBranch_90 : decode b_MO_throughBranch 90 = .ok (.iconst 1, 1) := by decide +kernel
theorem d_MO_throughBranch_91 : decode b_MO_throughBranch 91 = .ok (.iadd, 1) := by decide +kernel
theorem d_MO_throughBranch_92 : decode b_MO_throughBranch 92 = .ok (.aload_n 0, 1) := by decide +kernel
theorem d_MO_throughBranch_93 : decode b_MO_throughBranch 93 = .ok (.getfield 32, 3) := by decide +kernel
theorem d_MO_throughBranch_96 : decode b_MO_throughBranch 96 = .ok (.iload_n 3, 1) := by decide +kernel
theorem d_MO_throughBranch_97 : decode b_MO_throughBranch 97 = .ok (.laload, 1) := by decide +kernel
theorem d_MO_throughBranch_98 : decode b_MO_throughBranch 98 = .ok (.l2i, 1) := by decide +kernel
theorem d_MO_throughBranch_99 : decode b_MO_throughBranch 99 = .ok (.iadd, 1) := by decide +kernel
theorem d_MO_throughBranch_100 : decode b_MO_throughBranch 100 = .ok (.istore_n 3, 1) := by decide +kernel
theorem d_MO_throughBranch_101 : decode b_MO_throughBranch 101 = .ok (.iinc 5 1, 3) := by decide +kernel
theorem d_MO_throughBranch_104 : decode b_MO_throughBranch 104 = .ok (.goto (-22), 3) := by decide +kernel
theorem d_MO_throughBranch_107 : decode b_MO_throughBranch 107 = .ok (.aload_n 0, 1) := by decide +kernel
theorem d_MO_throughBranch_108 : decode b_MO_throughBranch 108 = .ok (.aload_n 0, 1) := by decide +kernel
theorem d_MO_throughBranch_109 : decode b_MO_throughBranch 109 = .ok (.getfield 169, 3) := by decide +kernel
theorem d_MO_throughBranch_112 : decode b_MO_throughBranch 112 = .ok (.bipush 16, 2) := by decide +kernel
theorem d_MO_throughBranch_114 : decode b_MO_throughBranch 114 = .ok (.iload 4, 2) := by decide +kernel
theorem d_MO_throughBranch_116 : decode b_MO_throughBranch 116 = .ok (.iadd, 1) := by decide +kernel
theorem d_MO_throughBranch_117 : decode b_MO_throughBranch 117 = .ok (.invokestatic 74, 3) := by decide +kernel
theorem d_MO_throughBranch_120 : decode b_MO_throughBranch 120 = .ok (.putfield 169, 3) := by decide +kernel
theorem d_MO_throughBranch_123 : decode b_MO_throughBranch 123 = .ok (.aload_n 0, 1) := by decide +kernel
theorem d_MO_throughBranch_124 : decode b_MO_throughBranch 124 = .ok (.iload_n 3, 1) := by decide +kernel
theorem d_MO_throughBranch_125 : decode b_MO_throughBranch 125 = .ok (.iconst 1, 1) := by decide +kernel
theorem d_MO_throughBranch_126 : decode b_MO_throughBranch 126 = .ok (.iadd, 1) := by decide +kernel
theorem d_MO_throughBranch_127 : decode b_MO_throughBranch 127 = .ok (.aload_n 0, 1) := by decide +kernel
theorem d_MO_throughBranch_128 : decode b_MO_throughBranch 128 = .ok (.getfield 32, 3) := by decide +kernel
theorem d_MO_throughBranch_131 : decode b_MO_throughBranch 131 = .ok (.iload_n 3, 1) := by decide +kernel
theorem d_MO_throughBranch_132 : decode b_MO_throughBranch 132 = .ok (.laload, 1) := by decide +kernel
theorem d_MO_throughBranch_133 : decode b_MO_throughBranch 133 = .ok (.l2i, 1) := by decide +kernel
theorem d_MO_throughBranch_134 : decode b_MO_throughBranch 134 = .ok (.invokevirtual 172, 3) := by decide +kernel
theorem d_MO_throughBranch_137 : decode b_MO_throughBranch 137 = .ok (.istore 5, 2) := by decide +kernel
theorem d_MO_throughBranch_139 : decode b_MO_throughBranch 139 = .ok (.iload 5, 2) := by decide +kernel
theorem d_MO_throughBranch_141 : decode b_MO_throughBranch 141 = .ok (.ifCond .eq 7, 3) := by decide +kernel
theorem d_MO_throughBranch_144 : decode b_MO_throughBranch 144 = .ok (.iconst 0, 1) := by decide +kernel
theorem d_MO_throughBranch_145 : decode b_MO_throughBranch 145 = .ok (.goto 4, 3) := by decide +kernel
theorem d_MO_throughBranch_148 : decode b_MO_throughBranch 148 = .ok (.iconst (-1), 1) := by decide +kernel
theorem d_MO_throughBranch_149 : decode b_MO_throughBranch 149 = .ok (.ireturn, 1) := by decide +kernel
theorem d_MO_throughTwo_0 : decode b_MO_throughTwo 0 = .ok (.aload_n 0, 1) := by decide +kernel
theorem d_MO_throughTwo_1 : decode b_MO_throughTwo 1 = .ok (.getfield 147, 3) := by decide +kernel
theorem d_MO_throughTwo_4 : decode b_MO_throughTwo 4 = .ok (.ldc2_w 175, 3) := by decide +kernel
theorem d_MO_throughTwo_7 : decode b_MO_throughTwo 7 = .ok (.lcmp, 1) := by decide +kernel
theorem d_MO_throughTwo_8 : decode b_MO_throughTwo 8 = .ok (.ifCond .lt 14, 3) := by decide +kernel
theorem d_MO_throughTwo_11 : decode b_MO_throughTwo 11 = .ok (.aload_n 0, 1) := by decide +kernel
theorem d_MO_throughTwo_12 : decode b_MO_throughTwo 12 = .ok (.getfield 147, 3) := by decide +kernel
theorem d_MO_throughTwo_15 : decode b_MO_throughTwo 15 = .ok (.ldc2_w 177, 3) := by decide +kernel
theorem d_MO_throughTwo_18 : decode b_MO_throughTwo 18 = .ok (.lcmp, 1) := by decide +kernel
theorem d_MO_throughTwo_19 : decode b_MO_throughTwo 19 = .ok (.ifCond .le 7, 3) := by decide +kernel
theorem d_MO_throughTwo_22 : decode b_MO_throughTwo 22 = .ok (.iconst (-1), 1) := by decide +kernel
theorem d_MO_throughTwo_23 : decode b_MO_throughTwo 23 = .ok (.goto 10, 3) := by decide +kernel
theorem d_MO_throughTwo_26 : decode b_MO_throughTwo 26 = .ok (.aload_n 0, 1) := by decide +kernel
theorem d_MO_throughTwo_27 : decode b_MO_throughTwo 27 = .ok (.getfield 147, 3) := by decide +kernel
theorem d_MO_throughTwo_30 : decode b_MO_throughTwo 30 = .ok (.iconst 1, 1) := by decide +kernel
theorem d_MO_throughTwo_31 : decode b_MO_throughTwo 31 = .ok (.lshr, 1) := by decide +kernel
theorem d_MO_throughTwo_32 : decode b_MO_throughTwo 32 = .ok (.l2i, 1) := by decide +kernel
theorem d_MO_throughTwo_33 : decode b_MO_throughTwo 33 = .ok (.istore_n 1, 1) := by decide +kernel
theorem d_MO_throughTwo_34 : decode b_MO_throughTwo 34 = .ok (.iload_n 1, 1) := by decide +kernel
theorem d_MO_throughTwo_35 : decode b_MO_throughTwo 35 = .ok (.ifCond .lt 10, 3) := by decide +kernel
theorem d_MO_throughTwo_38 : decode b_MO_throughTwo 38 = .ok (.iload_n 1, 1) := by decide +kernel
theorem d_MO_throughTwo_39 : decode b_MO_throughTwo 39 = .ok (.invokestatic 41, 3) := by decide +kernel
theorem d_MO_throughTwo_42 : decode b_MO_throughTwo 42 = .ok (.ifCond .ge 5, 3) := by decide +kernel
theorem d_MO_throughTwo_45 : decode b_MO_throughTwo 45 = .ok (.iconst (-1), 1) := by decide +kernel
theorem d_MO_throughTwo_46 : decode b_MO_throughTwo 46 = .ok (.ireturn, 1) := by decide +kernel
theorem d_MO_throughTwo_47 : decode b_MO_throughTwo 47 = .ok (.aload_n 0, 1) := by decide +kernel
theorem d_MO_throughTwo_48 : decode b_MO_throughTwo 48 = .ok (.getfield 147, 3) := by decide +kernel
theorem d_MO_throughTwo_51 : decode b_MO_throughTwo 51 = .ok (.lconst 1, 1) := by decide +kernel
theorem d_MO_throughTwo_52 : decode b_MO_throughTwo 52 = .ok (.land, 1) := by decide +kernel
theorem d_MO_throughTwo_53 : decode b_MO_throughTwo 53 = .ok (.lconst 1, 1) := by decide +kernel
theorem d_MO_throughTwo_54 : decode b_MO_throughTwo 54 = .ok (.lcmp, 1) := by decide +kernel
theorem d_MO_throughTwo_55 : decode b_MO_throughTwo 55 = .ok (.ifCond .ne 25, 3) := by decide +kernel
theorem d_MO_throughTwo_58 : decode b_MO_throughTwo 58 = .ok (.aload_n 0, 1) := by decide +kernel
theorem d_MO_throughTwo_59 : decode b_MO_throughTwo 59 = .ok (.iload_n 1, 1) := by decide +kernel
theorem d_MO_throughTwo_60 : decode b_MO_throughTwo 60 = .ok (.aload_n 0, 1) := by decide +kernel
theorem d_MO_throughTwo_61 : decode b_MO_throughTwo 61 = .ok (.getfield 169, 3) := by decide +kernel
theorem d_MO_throughTwo_64 : decode b_MO_throughTwo 64 = .ok (.if_icmp .ne 10, 3) := by decide +kernel
theorem d_MO_throughTwo_67 : decode b_MO_throughTwo 67 = .ok (.aload_n 0, 1) := by decide +kernel
theorem d_MO_throughTwo_68 : decode b_MO_throughTwo 68 = .ok (.getfield 151, 3) := by decide +kernel
theorem d_MO_throughTwo_71 : decode b_MO_throughTwo 71 = .ok (.goto 4, 3) := by decide +kernel
theorem d_MO_throughTwo_74 : decode b_MO_throughTwo 74 = .ok (.lconst 0, 1) := by decide +kernel
theorem d_MO_throughTwo_75 : decode b_MO_throughTwo 75 = .ok (.putfield 147, 3) := by decide +kernel
theorem d_MO_throughTwo_78 : decode b_MO_throughTwo 78 = .ok (.iconst 1, 1) := by decide +kernel
theorem d_MO_throughTwo_79 : decode b_MO_throughTwo 79 = .ok (.ireturn, 1) := by decide +kernel
theorem d_MO_throughTwo_80 : decode b_MO_throughTwo 80 = .ok (.aload_n 0, 1) := by decide +kernel
theorem d_MO_throughTwo_81 : decode b_MO_throughTwo 81 = .ok (.getfield 169, 3) := by decide +kernel
theorem d_MO_throughTwo_84 : decode b_MO_throughTwo 84 = .ok (.iload_n 1, 1) := by decide +kernel
theorem d_MO_throughTwo_85 : decode b_MO_throughTwo 85 = .ok (.invokestatic 52, 3) := by decide +kernel
theorem d_MO_throughTwo_88 : decode b_MO_throughTwo 88 = .ok (.ifCond .ne 10, 3) := by decide +kernel
theorem d_MO_throughTwo_91 : decode b_MO_throughTwo 91 = .ok (.aload_n 0, 1) := by decide +kernel
theorem d_MO_throughTwo_92 : decode b_MO_throughTwo 92 = .ok (.lconst 0, 1) := by decide +kernel
theorem d_MO_throughTwo_93 : decode b_MO_throughTwo 93 = .ok (.putfield 147, 3) := by decide +kernel
theorem d_MO_throughTwo_96 : decode b_MO_throughTwo 96 = .ok (.iconst 1, 1) := by decide +kernel
theorem d_MO_throughTwo_97 : decode b_MO_throughTwo 97 = .ok (.ireturn, 1) := by decide +kernel
theorem d_MO_throughTwo_98 : decode b_MO_throughTwo 98 = .ok (.aload_n 0, 1) := by decide +kernel
theorem d_MO_throughTwo_99 : decode b_MO_throughTwo 99 = .ok (.aload_n 0, 1) := by decide +kernel
theorem d_MO_throughTwo_100 : decode b_MO_throughTwo 100 = .ok (.getfield 169, 3) := by decide +kernel
theorem d_MO_throughTwo_103 : decode b_MO_throughTwo 103 = .ok (.iload_n 1, 1) := by decide +kernel
theorem d_MO_throughTwo_104 : decode b_MO_throughTwo 104 = .ok (.invokestatic 74, 3) := by decide +kernel
theorem d_MO_throughTwo_107 : decode b_MO_throughTwo 107 = .ok (.putfield 169, 3) := by decide +kernel
theorem d_MO_throughTwo_110 : decode b_MO_throughTwo 110 = .ok (.aload_n 0, 1) := by decide +kernel
theorem d_MO_throughTwo_111 : decode b_MO_throughTwo 111 = .ok (.aload_n 0, 1) := by decide +kernel
theorem d_MO_throughTwo_112 : decode b_MO_throughTwo 112 = .ok (.getfield 151, 3) := by decide +kernel
theorem d_MO_throughTwo_115 : decode b_MO_throughTwo 115 = .ok (.putfield 147, 3) := by decide +kernel
theorem d_MO_throughTwo_118 : decode b_MO_throughTwo 118 = .ok (.aload_n 0, 1) := by decide +kernel
theorem d_MO_throughTwo_119 : decode b_MO_throughTwo 119 = .ok (.iconst 1, 1) := by decide +kernel
theorem d_MO_throughTwo_120 : decode b_MO_throughTwo 120 = .ok (.putfield 144, 3) := by decide +kernel
theorem d_MO_throughTwo_123 : decode b_MO_throughTwo 123 = .ok (.iconst 0, 1) := by decide +kernel
theorem d_MO_throughTwo_124 : decode b_MO_throughTwo 124 = .ok (.ireturn, 1) := by decide +kernel
theorem d_MO_verify_0 : decode b_MO_verify 0 = .ok (.iload_n 3, 1) := by decide +kernel
theorem d_MO_verify_1 : decode b_MO_verify 1 = .ok (.invokestatic 41, 3) := by decide +kernel
theorem d_MO_verify_4 : decode b_MO_verify 4 = .ok (.ifCond .lt 22, 3) := by decide +kernel
theorem d_MO_verify_7 : decode b_MO_verify 7 = .ok (.aload_n 0, 1) := by decide +kernel
theorem d_MO_verify_8 : decode b_MO_verify 8 = .ok (.getfield 138, 3) := by decide +kernel
theorem d_MO_verify_11 : decode b_MO_verify 11 = .ok (.ifCond .eq 15, 3) := by decide +kernel
theorem d_MO_verify_14 : decode b_MO_verify 14 = .ok (.aload_n 0, 1) := by decide +kernel
theorem d_MO_verify_15 : decode b_MO_verify 15 = .ok (.getfield 32, 3) := by decide +kernel
theorem d_MO_verify_18 : decode b_MO_verify 18 = .ok (.iconst 0, 1) := by decide +kernel
theorem d_MO_verify_19 : decode b_MO_verify 19 = .ok (.laload, 1) := by decide +kernel
theorem d_MO_verify_20 : decode b_MO_verify 20 = .ok (.invokestatic 157, 3) := by decide +kernel
theorem d_MO_verify_23 : decode b_MO_verify 23 = .ok (.ifCond .ne 5, 3) := by decide +kernel
theorem d_MO_verify_26 : decode b_MO_verify 26 = .ok (.iconst 0, 1) := by decide +kernel
theorem d_MO_verify_27 : decode b_MO_verify 27 = .ok (.ireturn, 1) := by decide +kernel
theorem d_MO_verify_28 : decode b_MO_verify 28 = .ok (.aload_n 0, 1) := by decide +kernel
theorem d_MO_verify_29 : decode b_MO_verify 29 = .ok (.getfield 32, 3) := by decide +kernel
theorem d_MO_verify_32 : decode b_MO_verify 32 = .ok (.iconst 0, 1) := by decide +kernel
theorem d_MO_verify_33 : decode b_MO_verify 33 = .ok (.laload, 1) := by decide +kernel
theorem d_MO_verify_34 : decode b_MO_verify 34 = .ok (.l2i, 1) := by decide +kernel
theorem d_MO_verify_35 : decode b_MO_verify 35 = .ok (.istore 5, 2) := by decide +kernel
theorem d_MO_verify_37 : decode b_MO_verify 37 = .ok (.aload_n 0, 1) := by decide +kernel
theorem d_MO_verify_38 : decode b_MO_verify 38 = .ok (.iconst 1, 1) := by decide +kernel
theorem d_MO_verify_39 : decode b_MO_verify 39 = .ok (.iload 5, 2) := by decide +kernel
theorem d_MO_verify_41 : decode b_MO_verify 41 = .ok (.invokevirtual 172, 3) := by decide +kernel
theorem d_MO_verify_44 : decode b_MO_verify 44 = .ok (.ifCond .eq 17, 3) := by decide +kernel
theorem d_MO_verify_47 : decode b_MO_verify 47 = .ok (.aload_n 0, 1) := by decide +kernel
theorem d_MO_verify_48 : decode b_MO_verify 48 = .ok (.iconst 1, 1) := by decide +kernel
theorem d_MO_verify_49 : decode b_MO_verify 49 = .ok (.iconst 1, 1) := by decide +kernel
theorem d_MO_verify_50 : decode b_MO_verify 50 = .ok (.iload 5, 2) := by decide +kernel
theorem d_MO_verify_52 : decode b_MO_verify 52 = .ok (.iadd, 1) := by decide +kernel
theorem d_MO_verify_53 : decode b_MO_verify 53 = .ok (.invokevirtual 165, 3) := by decide +kernel
theorem d_MO_verify_56 : decode b_MO_verify 56 = .ok (.lload_n 1, 1) := by decide +kernel
theorem d_MO_verify_57 : decode b_MO_verify 57 = .ok (.lcmp, 1) := by decide +kernel
theorem d_MO_verify_58 : decode b_MO_verify 58 = .ok (.ifCond .eq 5, 3) := by decide +kernel
theorem d_MO_verify_61 : decode b_MO_verify 61 = .ok (.iconst 0, 1) := by decide +kernel
theorem d_MO_verify_62 : decode b_MO_verify 62 = .ok (.ireturn, 1) := by decide +kernel
theorem d_MO_verify_63 : decode b_MO_verify 63 = .ok (.aload_n 0, 1) := by decide +kernel
theorem d_MO_verify_64 : decode b_MO_verify 64 = .ok (.iconst 1, 1) := by decide +kernel
theorem d_MO_verify_65 : decode b_MO_verify 65 = .ok (.iload 5, 2) := by decide +kernel
theorem d_MO_verify_67 : decode b_MO_verify 67 = .ok (.iadd, 1) := by decide +kernel
theorem d_MO_verify_68 : decode b_MO_verify 68 = .ok (.putfield 154, 3) := by decide +kernel
theorem d_MO_verify_71 : decode b_MO_verify 71 = .ok (.aload_n 0, 1) := by decide +kernel
theorem d_MO_verify_72 : decode b_MO_verify 72 = .ok (.iload_n 3, 1) := by decide +kernel
theorem d_MO_verify_73 : decode b_MO_verify 73 = .ok (.putfield 169, 3) := by decide +kernel
theorem d_MO_verify_76 : decode b_MO_verify 76 = .ok (.iconst 0, 1) := by decide +kernel
theorem d_MO_verify_77 : decode b_MO_verify 77 = .ok (.istore 6, 2) := by decide +kernel
theorem d_MO_verify_79 : decode b_MO_verify 79 = .ok (.iconst 0, 1) := by decide +kernel
theorem d_MO_verify_80 : decode b_MO_verify 80 = .ok (.istore 7, 2) := by decide +kernel
theorem d_MO_verify_82 : decode b_MO_verify 82 = .ok (.iload 7, 2) := by decide +kernel
theorem d_MO_verify_84 : decode b_MO_verify 84 = .ok (.bipush 64, 2) := by decide +kernel
theorem d_MO_verify_86 : decode b_MO_verify 86 = .ok (.if_icmp .ge 53, 3) := by decide +kernel
theorem d_MO_verify_89 : decode b_MO_verify 89 = .ok (.iload 6, 2) := by decide +kernel
theorem d_MO_verify_91 : decode b_MO_verify 91 = .ok (.ifCond .ne 48, 3) := by decide +kernel
theorem d_MO_verify_94 : decode b_MO_verify 94 = .ok (.aload_n 0, 1) := by decide +kernel
theorem d_MO_verify_95 : decode b_MO_verify 95 = .ok (.getfield 144, 3) := by decide +kernel
theorem d_MO_verify_98 : decode b_MO_verify 98 = .ok (.ifCond .ne 14, 3) := by decide +kernel
theorem d_MO_verify_101 : decode b_MO_verify 101 = .ok (.aload_n 0, 1) := by decide +kernel
theorem d_MO_verify_102 : decode b_MO_verify 102 = .ok (.lconst 0, 1) := by decide +kernel
theorem d_MO_verify_103 : decode b_MO_verify 103 = .ok (.putfield 147, 3) := by decide +kernel
theorem d_MO_verify_106 : decode b_MO_verify 106 = .ok (.iconst 1, 1) := by decide +kernel
theorem d_MO_verify_107 : decode b_MO_verify 107 = .ok (.istore 6, 2) := by decide +kernel
theorem d_MO_verify_109 : decode b_MO_verify 109 = .ok (.goto 24, 3) := by decide +kernel
theorem d_MO_verify_112 : decode b_MO_verify 112 = .ok (.aload_n 0, 1) := by decide +kernel
theorem d_MO_verify_113 : decode b_MO_verify 113 = .ok (.getfield 144, 3) := by decide +kernel
theorem d_MO_verify_116 : decode b_MO_verify 116 = .ok (.iconst 2, 1) := by decide +kernel
theorem d_MO_verify_117 : decode b_MO_verify 117 = .ok (.if_icmp .ne 10, 3) := by decide +kernel
theorem d_MO_verify_120 : decode b_MO_verify 120 = .ok (.aload_n 0, 1) := by decide +kernel
theorem d_MO_verify_121 : decode b_MO_verify 121 = .ok (.invokevirtual 179, 3) := by decide +kernel
theorem d_MO_verify_124 : decode b_MO_verify 124 = .ok (.goto 7, 3) := by decide +kernel
theorem d_MO_verify_127 : decode b_MO_verify 127 = .ok (.aload_n 0, 1) := by decide +kernel
theorem d_MO_verify_128 : decode b_MO_verify 128 = .ok (.invokevirtual 182, 3) := by decide +kernel
theorem d_MO_verify_131 : decode b_MO_verify 131 = .ok (.istore 6, 2) := by decide +kernel
theorem d_MO_verify_133 : decode b_MO_verify 133 = .ok (.iinc 7 1, 3) := by decide +kernel
theorem d_MO_verify_136 : decode b_MO_verify 136 = .ok (.goto (-54), 3) := by decide +kernel
theorem d_MO_verify_139 : decode b_MO_verify 139 = .ok (.iload 6, 2) := by decide +kernel
theorem d_MO_verify_141 : decode b_MO_verify 141 = .ok (.iconst 1, 1) := by decide +kernel
theorem d_MO_verify_142 : decode b_MO_verify 142 = .ok (.if_icmp .ne 29, 3) := by decide +kernel
theorem d_MO_verify_145 : decode b_MO_verify 145 = .ok (.aload_n 0, 1) := by decide +kernel
theorem d_MO_verify_146 : decode b_MO_verify 146 = .ok (.getfield 154, 3) := by decide +kernel
theorem d_MO_verify_149 : decode b_MO_verify 149 = .ok (.aload_n 0, 1) := by decide +kernel
theorem d_MO_verify_150 : decode b_MO_verify 150 = .ok (.getfield 138, 3) := by decide +kernel
theorem d_MO_verify_153 : decode b_MO_verify 153 = .ok (.if_icmp .ne 18, 3) := by decide +kernel
theorem d_MO_verify_156 : decode b_MO_verify 156 = .ok (.aload_n 0, 1) := by decide +kernel
theorem d_MO_verify_157 : decode b_MO_verify 157 = .ok (.getfield 147, 3) := by decide +kernel
theorem d_MO_verify_160 : decode b_MO_verify 160 = .ok (.iload 4, 2) := by decide +kernel
theorem d_MO_verify_162 : decode b_MO_verify 162 = .ok (.i2l, 1) := by decide +kernel
theorem d_MO_verify_163 : decode b_MO_verify 163 = .ok (.lcmp, 1) := by decide +kernel
theorem d_MO_verify_164 : decode b_MO_verify 164 = .ok (.ifCond .ne 7, 3) := by decide +kernel
theorem d_MO_verify_167 : decode b_MO_verify 167 = .ok (.iconst 1, 1) := by decide +kernel
theorem d_MO_verify_168 : decode b_MO_verify 168 = .ok (.goto 4, 3) := by decide +kernel
theorem d_MO_verify_171 : decode b_MO_verify 171 = .ok (.iconst 0, 1) := by decide +kernel
theorem d_MO_verify_172 : decode b_MO_verify 172 = .ok (.ireturn, 1) := by decide +kernel
theorem d_PA_isNumber_0 : decode b_PA_isNumber 0 = .ok (.lload_n 0, 1) := by decide +kernel
theorem d_PA_isNumber_1 : decode b_PA_isNumber 1 = .ok (.lconst 1, 1) := by decide +kernel
theorem d_PA_isNumber_2 : decode b_PA_isNumber 2 = .ok (.lcmp, 1) := by decide +kernel
theorem d_PA_isNumber_3 : decode b_PA_isNumber 3 = .ok (.ifCond .eq 67, 3) := by decide +kernel
theorem d_PA_isNumber_6 : decode b_PA_isNumber 6 = .ok (.lload_n 0, 1) := by decide +kernel
theorem d_PA_isNumber_7 : decode b_PA_isNumber 7 = .ok (.ldc2_w 11, 3) := by decide +kernel
theorem d_PA_isNumber_10 : decode b_PA_isNumber 10 = .ok (.lcmp, 1) := by decide +kernel
theorem d_PA_isNumber_11 : decode b_PA_isNumber 11 = .ok (.ifCond .lt 11, 3) := by decide +kernel
theorem d_PA_isNumber_14 : decode b_PA_isNumber 14 = .ok (.lload_n 0, 1) := by decide +kernel
theorem d_PA_isNumber_15 : decode b_PA_isNumber 15 = .ok (.ldc2_w 13, 3) := by decide +kernel
theorem d_PA_isNumber_18 : decode b_PA_isNumber 18 = .ok (.lcmp, 1) := by decide +kernel
theorem d_PA_isNumber_19 : decode b_PA_isNumber 19 = .ok (.ifCond .le 51, 3) := by decide +kernel
theorem d_PA_isNumber_22 : decode b_PA_isNumber 22 = .ok (.lload_n 0, 1) := by decide +kernel
theorem d_PA_isNumber_23 : decode b_PA_isNumber 23 = .ok (.ldc2_w 15, 3) := by decide +kernel
theorem d_PA_isNumber_26 : decode b_PA_isNumber 26 = .ok (.lcmp, 1) := by decide +kernel
theorem d_PA_isNumber_27 : decode b_PA_isNumber 27 = .ok (.ifCond .lt 11, 3) := by decide +kernel
theorem d_PA_isNumber_30 : decode b_PA_isNumber 30 = .ok (.lload_n 0, 1) := by decide +kernel
theorem d_PA_isNumber_31 : decode b_PA_isNumber 31 = .ok (.ldc2_w 17, 3) := by decide +kernel
theorem d_PA_isNumber_34 : decode b_PA_isNumber 34 = .ok (.lcmp, 1) := by decide +kernel
theorem d_PA_isNumber_35 : decode b_PA_isNumber 35 = .ok (.ifCond .le 35, 3) := by decide +kernel
theorem d_PA_isNumber_38 : decode b_PA_isNumber 38 = .ok (.lload_n 0, 1) := by decide +kernel
theorem d_PA_isNumber_39 : decode b_PA_isNumber 39 = .ok (.ldc2_w 19, 3) := by decide +kernel
theorem d_PA_isNumber_42 : decode b_PA_isNumber 42 = .ok (.lcmp, 1) := by decide +kernel
theorem d_PA_isNumber_43 : decode b_PA_isNumber 43 = .ok (.ifCond .lt 11, 3) := by decide +kernel
theorem d_PA_isNumber_46 : decode b_PA_isNumber 46 = .ok (.lload_n 0, 1) := by decide +kernel
theorem d_PA_isNumber_47 : decode b_PA_isNumber 47 = .ok (.ldc2_w 21, 3) := by decide +kernel
theorem d_PA_isNumber_50 : decode b_PA_isNumber 50 = .ok (.lcmp, 1) := by decide +kernel
theorem d_PA_isNumber_51 : decode b_PA_isNumber 51 = .ok (.ifCond .le 19, 3) := by decide +kernel
theorem d_PA_isNumber_54 : decode b_PA_isNumber 54 = .ok (.lload_n 0, 1) := by decide +kernel
theorem d_PA_isNumber_55 : decode b_PA_isNumber 55 = .ok (.ldc2_w 23, 3) := by decide +kernel
theorem d_PA_isNumber_58 : decode b_PA_isNumber 58 = .ok (.lcmp, 1) := by decide +kernel
theorem d_PA_isNumber_59 : decode b_PA_isNumber 59 = .ok (.ifCond .lt 15, 3) := by decide +kernel
theorem d_PA_isNumber_62 : decode b_PA_isNumber 62 = .ok (.lload_n 0, 1) := by decide +kernel
theorem d_PA_isNumber_63 : decode b_PA_isNumber 63 = .ok (.ldc2_w 25, 3) := by decide +kernel
theorem d_PA_isNumber_66 : decode b_PA_isNumber 66 = .ok (.lcmp, 1) := by decide +kernel
theorem d_PA_isNumber_67 : decode b_PA_isNumber 67 = .ok (.ifCond .gt 7, 3) := by decide +kernel
theorem d_PA_isNumber_70 : decode b_PA_isNumber 70 = .ok (.iconst 1, 1) := by decide +kernel
theorem d_PA_isNumber_71 : decode b_PA_isNumber 71 = .ok (.goto 4, 3) := by decide +kernel
theorem d_PA_isNumber_74 : decode b_PA_isNumber 74 = .ok (.iconst 0, 1) := by decide +kernel
theorem d_PA_isNumber_75 : decode b_PA_isNumber 75 = .ok (.ireturn, 1) := by decide +kernel
theorem d_PA_length_0 : decode b_PA_length 0 = .ok (.iload_n 0, 1) := by decide +kernel
theorem d_PA_length_1 : decode b_PA_length 1 = .ok (.bipush 16, 2) := by decide +kernel
theorem d_PA_length_3 : decode b_PA_length 3 = .ok (.if_icmp .ge 5, 3) := by decide +kernel
theorem d_PA_length_6 : decode b_PA_length 6 = .ok (.iconst 0, 1) := by decide +kernel
theorem d_PA_length_7 : decode b_PA_length 7 = .ok (.ireturn, 1) := by decide +kernel
theorem d_PA_length_8 : decode b_PA_length 8 = .ok (.iload_n 0, 1) := by decide +kernel
theorem d_PA_length_9 : decode b_PA_length 9 = .ok (.sipush 256, 3) := by decide +kernel
theorem d_PA_length_12 : decode b_PA_length 12 = .ok (.if_icmp .ge 5, 3) := by decide +kernel
theorem d_PA_length_15 : decode b_PA_length 15 = .ok (.iconst 1, 1) := by decide +kernel
theorem d_PA_length_16 : decode b_PA_length 16 = .ok (.ireturn, 1) := by decide +kernel
theorem d_PA_length_17 : decode b_PA_length 17 = .ok (.iload_n 0, 1) := by decide +kernel
theorem d_PA_length_18 : decode b_PA_length 18 = .ok (.sipush 4096, 3) := by decide +kernel
theorem d_PA_length_21 : decode b_PA_length 21 = .ok (.if_icmp .ge 5, 3) := by decide +kernel
theorem d_PA_length_24 : decode b_PA_length 24 = .ok (.iconst 2, 1) := by decide +kernel
theorem d_PA_length_25 : decode b_PA_length 25 = .ok (.ireturn, 1) := by decide +kernel
theorem d_PA_length_26 : decode b_PA_length 26 = .ok (.iload_n 0, 1) := by decide +kernel
theorem d_PA_length_27 : decode b_PA_length 27 = .ok (.ldc 27, 2) := by decide +kernel
theorem d_PA_length_29 : decode b_PA_length 29 = .ok (.if_icmp .ge 7, 3) := by decide +kernel
theorem d_PA_length_32 : decode b_PA_length 32 = .ok (.iconst 3, 1) := by decide +kernel
theorem d_PA_length_33 : decode b_PA_length 33 = .ok (.goto 4, 3) := by decide +kernel
theorem d_PA_length_36 : decode b_PA_length 36 = .ok (.iconst 4, 1) := by decide +kernel
theorem d_PA_length_37 : decode b_PA_length 37 = .ok (.ireturn, 1) := by decide +kernel
theorem d_PA_nibble_0 : decode b_PA_nibble 0 = .ok (.iload_n 0, 1) := by decide +kernel
theorem d_PA_nibble_1 : decode b_PA_nibble 1 = .ok (.iconst 4, 1) := by decide +kernel
theorem d_PA_nibble_2 : decode b_PA_nibble 2 = .ok (.iload_n 0, 1) := by decide +kernel
theorem d_PA_nibble_3 : decode b_PA_nibble 3 = .ok (.invokestatic 28, 3) := by decide +kernel
theorem d_PA_nibble_6 : decode b_PA_nibble 6 = .ok (.iload_n 1, 1) := by decide +kernel
theorem d_PA_nibble_7 : decode b_PA_nibble 7 = .ok (.isub, 1) := by decide +kernel
theorem d_PA_nibble_8 : decode b_PA_nibble 8 = .ok (.iconst 1, 1) := by decide +kernel
theorem d_PA_nibble_9 : decode b_PA_nibble 9 = .ok (.isub, 1) := by decide +kernel
theorem d_PA_nibble_10 : decode b_PA_nibble 10 = .ok (.imul, 1) := by decide +kernel
theorem d_PA_nibble_11 : decode b_PA_nibble 11 = .ok (.ishr, 1) := by decide +kernel
theorem d_PA_nibble_12 : decode b_PA_nibble 12 = .ok (.bipush 15, 2) := by decide +kernel
theorem d_PA_nibble_14 : decode b_PA_nibble 14 = .ok (.iand, 1) := by decide +kernel
theorem d_PA_nibble_15 : decode b_PA_nibble 15 = .ok (.ireturn, 1) := by decide +kernel
theorem d_PA_front_0 : decode b_PA_front 0 = .ok (.iload_n 0, 1) := by decide +kernel
theorem d_PA_front_1 : decode b_PA_front 1 = .ok (.iconst 4, 1) := by decide +kernel
theorem d_PA_front_2 : decode b_PA_front 2 = .ok (.iload_n 0, 1) := by decide +kernel
theorem d_PA_front_3 : decode b_PA_front 3 = .ok (.invokestatic 28, 3) := by decide +kernel
theorem d_PA_front_6 : decode b_PA_front 6 = .ok (.iload_n 1, 1) := by decide +kernel
theorem d_PA_front_7 : decode b_PA_front 7 = .ok (.isub, 1) := by decide +kernel
theorem d_PA_front_8 : decode b_PA_front 8 = .ok (.imul, 1) := by decide +kernel
theorem d_PA_front_9 : decode b_PA_front 9 = .ok (.ishr, 1) := by decide +kernel
theorem d_PA_front_10 : decode b_PA_front 10 = .ok (.ireturn, 1) := by decide +kernel
theorem d_PA_without_0 : decode b_PA_without 0 = .ok (.iconst 4, 1) := by decide +kernel
theorem d_PA_without_1 : decode b_PA_without 1 = .ok (.iload_n 0, 1) := by decide +kernel
theorem d_PA_without_2 : decode b_PA_without 2 = .ok (.invokestatic 28, 3) := by decide +kernel
theorem d_PA_without_5 : decode b_PA_without 5 = .ok (.iload_n 1, 1) := by decide +kernel
theorem d_PA_without_6 : decode b_PA_without 6 = .ok (.isub, 1) := by decide +kernel
theorem d_PA_without_7 : decode b_PA_without 7 = .ok (.imul, 1) := by decide +kernel
theorem d_PA_without_8 : decode b_PA_without 8 = .ok (.istore_n 2, 1) := by decide +kernel
theorem d_PA_without_9 : decode b_PA_without 9 = .ok (.iconst 1, 1) := by decide +kernel
theorem d_PA_without_10 : decode b_PA_without 10 = .ok (.iload_n 2, 1) := by decide +kernel
theorem d_PA_without_11 : decode b_PA_without 11 = .ok (.ishl, 1) := by decide +kernel
theorem d_PA_without_12 : decode b_PA_without 12 = .ok (.iload_n 0, 1) := by decide +kernel
theorem d_PA_without_13 : decode b_PA_without 13 = .ok (.iconst 1, 1) := by decide +kernel
theorem d_PA_without_14 : decode b_PA_without 14 = .ok (.iload_n 2, 1) := by decide +kernel
theorem d_PA_without_15 : decode b_PA_without 15 = .ok (.ishl, 1) := by decide +kernel
theorem d_PA_without_16 : decode b_PA_without 16 = .ok (.iconst 1, 1) := by decide +kernel
theorem d_PA_without_17 : decode b_PA_without 17 = .ok (.isub, 1) := by decide +kernel
theorem d_PA_without_18 : decode b_PA_without 18 = .ok (.iand, 1) := by decide +kernel
theorem d_PA_without_19 : decode b_PA_without 19 = .ok (.ior, 1) := by decide +kernel
theorem d_PA_without_20 : decode b_PA_without 20 = .ok (.ireturn, 1) := by decide +kernel
theorem d_PA_begins_0 : decode b_PA_begins 0 = .ok (.iload_n 1, 1) := by decide +kernel
theorem d_PA_begins_1 : decode b_PA_begins 1 = .ok (.invokestatic 28, 3) := by decide +kernel
theorem d_PA_begins_4 : decode b_PA_begins 4 = .ok (.istore_n 2, 1) := by decide +kernel
theorem d_PA_begins_5 : decode b_PA_begins 5 = .ok (.iload_n 0, 1) := by decide +kernel
theorem d_PA_begins_6 : decode b_PA_begins 6 = .ok (.invokestatic 28, 3) := by decide +kernel
theorem d_PA_begins_9 : decode b_PA_begins 9 = .ok (.iload_n 2, 1) := by decide +kernel
theorem d_PA_begins_10 : decode b_PA_begins 10 = .ok (.if_icmp .lt 16, 3) := by decide +kernel
theorem d_PA_begins_13 : decode b_PA_begins 13 = .ok (.iload_n 0, 1) := by decide +kernel
theorem d_PA_begins_14 : decode b_PA_begins 14 = .ok (.iload_n 2, 1) := by decide +kernel
theorem d_PA_begins_15 : decode b_PA_begins 15 = .ok (.invokestatic 32, 3) := by decide +kernel
theorem d_PA_begins_18 : decode b_PA_begins 18 = .ok (.iload_n 1, 1) := by decide +kernel
theorem d_PA_begins_19 : decode b_PA_begins 19 = .ok (.if_icmp .ne 7, 3) := by decide +kernel
theorem d_PA_begins_22 : decode b_PA_begins 22 = .ok (.iconst 1, 1) := by decide +kernel
theorem d_PA_begins_23 : decode b_PA_begins 23 = .ok (.goto 4, 3) := by decide +kernel
theorem d_PA_begins_26 : decode b_PA_begins 26 = .ok (.iconst 0, 1) := by decide +kernel
theorem d_PA_begins_27 : decode b_PA_begins 27 = .ok (.ireturn, 1) := by decide +kernel
theorem d_PA_commonLength_0 : decode b_PA_commonLength 0 = .ok (.iload_n 0, 1) := by decide +kernel
theorem d_PA_commonLength_1 : decode b_PA_commonLength 1 = .ok (.invokestatic 28, 3) := by decide +kernel
theorem d_PA_commonLength_4 : decode b_PA_commonLength 4 = .ok (.iload_n 1, 1) := by decide +kernel
theorem d_PA_commonLength_5 : decode b_PA_commonLength 5 = .ok (.invokestatic 28, 3) := by decide +kernel
theorem d_PA_commonLength_8 : decode b_PA_commonLength 8 = .ok (.invokestatic 36, 3) := by decide +kernel
theorem d_PA_commonLength_11 : decode b_PA_commonLength 11 = .ok (.istore_n 2, 1) := by decide +kernel
theorem d_PA_commonLength_12 : decode b_PA_commonLength 12 = .ok (.iconst 0, 1) := by decide +kernel
theorem d_PA_commonLength_13 : decode b_PA_commonLength 13 = .ok (.istore_n 3, 1) := by decide +kernel
theorem d_PA_commonLength_14 : decode b_PA_commonLength 14 = .ok (.iload_n 3, 1) := by decide +kernel
theorem d_PA_commonLength_15 : decode b_PA_commonLength 15 = .ok (.iload_n 2, 1) := by decide +kernel
theorem d_PA_commonLength_16 : decode b_PA_commonLength 16 = .ok (.if_icmp .ge 22, 3) := by decide +kernel
theorem d_PA_commonLength_19 : decode b_PA_commonLength 19 = .ok (.iload_n 0, 1) := by decide +kernel
theorem d_PA_commonLength_20 : decode b_PA_commonLength 20 = .ok (.iload_n 3, 1) := by decide +kernel
theorem d_PA_commonLength_21 : decode b_PA_commonLength 21 = .ok (.invokestatic 41, 3) := by decide +kernel
theorem d_PA_commonLength_24 : decode b_PA_commonLength 24 = .ok (.iload_n 1, 1) := by decide +kernel
theorem d_PA_commonLength_25 : decode b_PA_commonLength 25 = .ok (.iload_n 3, 1) := by decide +kernel
theorem d_PA_commonLength_26 : decode b_PA_commonLength 26 = .ok (.invokestatic 41, 3) := by decide +kernel
theorem d_PA_commonLength_29 : decode b_PA_commonLength 29 = .ok (.if_icmp .ne 9, 3) := by decide +kernel
theorem d_PA_commonLength_32 : decode b_PA_commonLength 32 = .ok (.iinc 3 1, 3) := by decide +kernel
theorem d_PA_commonLength_35 : decode b_PA_commonLength 35 = .ok (.goto (-21), 3) := by decide +kernel
theorem d_PA_commonLength_38 : decode b_PA_commonLength 38 = .ok (.iload_n 3, 1) := by decide +kernel
theorem d_PA_commonLength_39 : decode b_PA_commonLength 39 = .ok (.ireturn, 1) := by decide +kernel
theorem d_PA_order_0 : decode b_PA_order 0 = .ok (.iload_n 0, 1) := by decide +kernel
theorem d_PA_order_1 : decode b_PA_order 1 = .ok (.invokestatic 28, 3) := by decide +kernel
theorem d_PA_order_4 : decode b_PA_order 4 = .ok (.istore_n 1, 1) := by decide +kernel
theorem d_PA_order_5 : decode b_PA_order 5 = .ok (.iload_n 0, 1) := by decide +kernel
theorem d_PA_order_6 : decode b_PA_order 6 = .ok (.iconst 4, 1) := by decide +kernel
theorem d_PA_order_7 : decode b_PA_order 7 = .ok (.iconst 4, 1) := by decide +kernel
theorem d_PA_order_8 : decode b_PA_order 8 = .ok (.iload_n 1, 1) := by decide +kernel
theorem d_PA_order_9 : decode b_PA_order 9 = .ok (.isub, 1) := by decide +kernel
theorem d_PA_order_10 : decode b_PA_order 10 = .ok (.imul, 1) := by decide +kernel
theorem d_PA_order_11 : decode b_PA_order 11 = .ok (.ishl, 1) := by decide +kernel
theorem d_PA_order_12 : decode b_PA_order 12 = .ok (.iconst 3, 1) := by decide +kernel
theorem d_PA_order_13 : decode b_PA_order 13 = .ok (.ishl, 1) := by decide +kernel
theorem d_PA_order_14 : decode b_PA_order 14 = .ok (.iload_n 1, 1) := by decide +kernel
theorem d_PA_order_15 : decode b_PA_order 15 = .ok (.ior, 1) := by decide +kernel
theorem d_PA_order_16 : decode b_PA_order 16 = .ok (.ireturn, 1) := by decide +kernel
theorem d_PM_rowOf_0 : decode b_PM_rowOf 0 = .ok (.iconst 0, 1) := by decide +kernel
theorem d_PM_rowOf_1 : decode b_PM_rowOf 1 = .ok (.istore_n 2, 1) := by decide +kernel
theorem d_PM_rowOf_2 : decode b_PM_rowOf 2 = .ok (.iload_n 2, 1) := by decide +kernel
theorem d_PM_rowOf_3 : decode b_PM_rowOf 3 = .ok (.aload_n 0, 1) := by decide +kernel
theorem d_PM_rowOf_4 : decode b_PM_rowOf 4 = .ok (.getfield 18, 3) := by decide +kernel
theorem d_PM_rowOf_7 : decode b_PM_rowOf 7 = .ok (.if_icmp .ge 21, 3) := by decide +kernel
theorem d_PM_rowOf_10 : decode b_PM_rowOf 10 = .ok (.aload_n 0, 1) := by decide +kernel
theorem d_PM_rowOf_11 : decode b_PM_rowOf 11 = .ok (.getfield 9, 3) := by decide +kernel
theorem d_PM_rowOf_14 : decode b_PM_rowOf 14 = .ok (.iload_n 2, 1) := by decide +kernel
theorem d_PM_rowOf_15 : decode b_PM_rowOf 15 = .ok (.iaload, 1) := by decide +kernel
theorem d_PM_rowOf_16 : decode b_PM_rowOf 16 = .ok (.iload_n 1, 1) := by decide +kernel
theorem d_PM_rowOf_17 : decode b_PM_rowOf 17 = .ok (.if_icmp .ne 5, 3) := by decide +kernel
theorem d_PM_rowOf_20 : decode b_PM_rowOf 20 = .ok (.iload_n 2, 1) := by decide +kernel
theorem d_PM_rowOf_21 : decode b_PM_rowOf 21 = .ok (.ireturn, 1) := by decide +kernel
theorem d_PM_rowOf_22 : decode b_PM_rowOf 22 = .ok (.iinc 2 1, 3) := by decide +kernel
theorem d_PM_rowOf_25 : decode b_PM_rowOf 25 = .ok (.goto (-23), 3) := by decide +kernel
theorem d_PM_rowOf_28 : decode b_PM_rowOf 28 = .ok (.iconst (-1), 1) := by decide +kernel
theorem d_PM_rowOf_29 : decode b_PM_rowOf 29 = .ok (.ireturn, 1) := by decide +kernel
theorem d_PM_valueOf_0 : decode b_PM_valueOf 0 = .ok (.aload_n 0, 1) := by decide +kernel
theorem d_PM_valueOf_1 : decode b_PM_valueOf 1 = .ok (.iload_n 1, 1) := by decide +kernel
theorem d_PM_valueOf_2 : decode b_PM_valueOf 2 = .ok (.invokevirtual 22, 3) := by decide +kernel
theorem d_PM_valueOf_5 : decode b_PM_valueOf 5 = .ok (.istore_n 2, 1) := by decide +kernel
theorem d_PM_valueOf_6 : decode b_PM_valueOf 6 = .ok (.iload_n 2, 1) := by decide +kernel
theorem d_PM_valueOf_7 : decode b_PM_valueOf 7 = .ok (.iconst (-1), 1) := by decide +kernel
theorem d_PM_valueOf_8 : decode b_PM_valueOf 8 = .ok (.if_icmp .ne 7, 3) := by decide +kernel
theorem d_PM_valueOf_11 : decode b_PM_valueOf 11 = .ok (.iconst 0, 1) := by decide +kernel
theorem d_PM_valueOf_12 : decode b_PM_valueOf 12 = .ok (.goto 9, 3) := by decide +kernel
theorem d_PM_valueOf_15 : decode b_PM_valueOf 15 = .ok (.aload_n 0, 1) := by decide +kernel
theorem d_PM_valueOf_16 : decode b_PM_valueOf 16 = .ok (.getfield 15, 3) := by decide +kernel
theorem d_PM_valueOf_19 : decode b_PM_valueOf 19 = .ok (.iload_n 2, 1) := by decide +kernel
theorem d_PM_valueOf_20 : decode b_PM_valueOf 20 = .ok (.iaload, 1) := by decide +kernel
theorem d_PM_valueOf_21 : decode b_PM_valueOf 21 = .ok (.ireturn, 1) := by decide +kernel
theorem d_PM_insert_0 : decode b_PM_insert 0 = .ok (.aload_n 0, 1) := by decide +kernel
theorem d_PM_insert_1 : decode b_PM_insert 1 = .ok (.getfield 18, 3) := by decide +kernel
theorem d_PM_insert_4 : decode b_PM_insert 4 = .ok (.bipush 16, 2) := by decide +kernel
theorem d_PM_insert_6 : decode b_PM_insert 6 = .ok (.if_icmp .ne 4, 3) := by decide +kernel
theorem d_PM_insert_9 : decode b_PM_insert 9 = .ok (.return_, 1) := by decide +kernel
theorem d_PM_insert_10 : decode b_PM_insert 10 = .ok (.aload_n 0, 1) := by decide +kernel
theorem d_PM_insert_11 : decode b_PM_insert 11 = .ok (.getfield 18, 3) := by decide +kernel
theorem d_PM_insert_14 : decode b_PM_insert 14 = .ok (.istore_n 3, 1) := by decide +kernel
theorem d_PM_insert_15 : decode b_PM_insert 15 = .ok (.iload_n 3, 1) := by decide +kernel
theorem d_PM_insert_16 : decode b_PM_insert 16 = .ok (.ifCond .le 55, 3) := by decide +kernel
theorem d_PM_insert_19 : decode b_PM_insert 19 = .ok (.aload_n 0, 1) := by decide +kernel
theorem d_PM_insert_20 : decode b_PM_insert 20 = .ok (.getfield 9, 3) := by decide +kernel
theorem d_PM_insert_23 : decode b_PM_insert 23 = .ok (.iload_n 3, 1) := by decide +kernel
theorem d_PM_insert_24 : decode b_PM_insert 24 = .ok (.iconst 1, 1) := by decide +kernel
theorem d_PM_insert_25 : decode b_PM_insert 25 = .ok (.isub, 1) := by decide +kernel
theorem d_PM_insert_26 : decode b_PM_insert 26 = .ok (.iaload, 1) := by decide +kernel
theorem d_PM_insert_27 : decode b_PM_insert 27 = .ok (.invokestatic 26, 3) := by decide +kernel
theorem d_PM_insert_30 : decode b_PM_insert 30 = .ok (.iload_n 1, 1) := by decide +kernel
theorem d_PM_insert_31 : decode b_PM_insert 31 = .ok (.invokestatic 26, 3) := by decide +kernel
theorem d_PM_insert_34 : decode b_PM_insert 34 = .ok (.if_icmp .le 37, 3) := by decide +kernel
theorem d_PM_insert_37 : decode b_PM_insert 37 = .ok (.aload_n 0, 1) := by decide +kernel
theorem d_PM_insert_38 : decode b_PM_insert 38 = .ok (.getfield 9, 3) := by decide +kernel
theorem d_PM_insert_41 : decode b_PM_insert 41 = .ok (.iload_n 3, 1) := by decide +kernel
theorem d_PM_insert_42 : decode b_PM_insert 42 = .ok (.aload_n 0, 1) := by decide +kernel
theorem d_PM_insert_43 : decode b_PM_insert 43 = .ok (.getfield 9, 3) := by decide +kernel
theorem d_PM_insert_46 : decode b_PM_insert 46 = .ok (.iload_n 3, 1) := by decide +kernel
theorem d_PM_insert_47 : decode b_PM_insert 47 = .ok (.iconst 1, 1) := by decide +kernel
theorem d_PM_insert_48 : decode b_PM_insert 48 = .ok (.isub, 1) := by decide +kernel
theorem d_PM_insert_49 : decode b_PM_insert 49 = .ok (.iaload, 1) := by decide +kernel
theorem d_PM_insert_50 : decode b_PM_insert 50 = .ok (.iastore, 1) := by decide +kernel
theorem d_PM_insert_51 : decode b_PM_insert 51 = .ok (.aload_n 0, 1) := by decide +kernel
theorem d_PM_insert_52 : decode b_PM_insert 52 = .ok (.getfield 15, 3) := by decide +kernel
theorem d_PM_insert_55 : decode b_PM_insert 55 = .ok (.iload_n 3, 1) := by decide +kernel
theorem d_PM_insert_56 : decode b_PM_insert 56 = .ok (.aload_n 0, 1) := by decide +kernel
theorem d_PM_insert_57 : decode b_PM_insert 57 = .ok (.getfield 15, 3) := by decide +kernel
theorem d_PM_insert_60 : decode b_PM_insert 60 = .ok (.iload_n 3, 1) := by decide +kernel
theorem d_PM_insert_61 : decode b_PM_insert 61 = .ok (.iconst 1, 1) := by decide +kernel
theorem d_PM_insert_62 : decode b_PM_insert 62 = .ok (.isub, 1) := by decide +kernel
theorem d_PM_insert_63 : decode b_PM_insert 63 = .ok (.iaload, 1) := by decide +kernel
theorem d_PM_insert_64 : decode b_PM_insert 64 = .ok (.iastore, 1) := by decide +kernel
theorem d_PM_insert_65 : decode b_PM_insert 65 = .ok (.iinc 3 (-1), 3) := by decide +kernel
theorem d_PM_insert_68 : decode b_PM_insert 68 = .ok (.goto (-53), 3) := by decide +kernel
theorem d_PM_insert_71 : decode b_PM_insert 71 = .ok (.aload_n 0, 1) := by decide +kernel
theorem d_PM_insert_72 : decode b_PM_insert 72 = .ok (.getfield 9, 3) := by decide +kernel
theorem d_PM_insert_75 : decode b_PM_insert 75 = .ok (.iload_n 3, 1) := by decide +kernel
theorem d_PM_insert_76 : decode b_PM_insert 76 = .ok (.iload_n 1, 1) := by decide +kernel
theorem d_PM_insert_77 : decode b_PM_insert 77 = .ok (.iastore, 1) := by decide +kernel
theorem d_PM_insert_78 : decode b_PM_insert 78 = .ok (.aload_n 0, 1) := by decide +kernel
theorem d_PM_insert_79 : decode b_PM_insert 79 = .ok (.getfield 15, 3) := by decide +kernel
theorem d_PM_insert_82 : decode b_PM_insert 82 = .ok (.iload_n 3, 1) := by decide +kernel
theorem d_PM_insert_83 : decode b_PM_insert 83 = .ok (.iload_n 2, 1) := by decide +kernel
theorem d_PM_insert_84 : decode b_PM_insert 84 = .ok (.iastore, 1) := by decide +kernel
theorem d_PM_insert_85 : decode b_PM_insert 85 = .ok (.aload_n 0, 1) := by decide +kernel
theorem d_PM_insert_86 : decode b_PM_insert 86 = .ok (.dup, 1) := by decide +kernel
theorem d_PM_insert_87 : decode b_PM_insert 87 = .ok (.getfield 18, 3) := by decide +kernel
theorem d_PM_insert_90 : decode b_PM_insert 90 = .ok (.iconst 1, 1) := by decide +kernel
theorem d_PM_insert_91 : decode b_PM_insert 91 = .ok (.iadd, 1) := by decide +kernel
theorem d_PM_insert_92 : decode b_PM_insert 92 = .ok (.putfield 18, 3) := by decide +kernel
theorem d_PM_insert_95 : decode b_PM_insert 95 = .ok (.return_, 1) := by decide +kernel
theorem d_PM_remove_0 : decode b_PM_remove 0 = .ok (.aload_n 0, 1) := by decide +kernel
theorem d_PM_remove_1 : decode b_PM_remove 1 = .ok (.dup, 1) := by decide +kernel
theorem d_PM_remove_2 : decode b_PM_remove 2 = .ok (.getfield 18, 3) := by decide +kernel
theorem d_PM_remove_5 : decode b_PM_remove 5 = .ok (.iconst 1, 1) := by decide +kernel
theorem d_PM_remove_6 : decode b_PM_remove 6 = .ok (.isub, 1) := by decide +kernel
theorem d_PM_remove_7 : decode b_PM_remove 7 = .ok (.putfield 18, 3) := by decide +kernel
theorem d_PM_remove_10 : decode b_PM_remove 10 = .ok (.iload_n 1, 1) := by decide +kernel
theorem d_PM_remove_11 : decode b_PM_remove 11 = .ok (.istore_n 2, 1) := by decide +kernel
theorem d_PM_remove_12 : decode b_PM_remove 12 = .ok (.iload_n 2, 1) := by decide +kernel
theorem d_PM_remove_13 : decode b_PM_remove 13 = .ok (.aload_n 0, 1) := by decide +kernel
theorem d_PM_remove_14 : decode b_PM_remove 14 = .ok (.getfield 18, 3) := by decide +kernel
theorem d_PM_remove_17 : decode b_PM_remove 17 = .ok (.if_icmp .ge 37, 3) := by decide +kernel
theorem d_PM_remove_20 : decode b_PM_remove 20 = .ok (.aload_n 0, 1) := by decide +kernel
theorem d_PM_remove_21 : decode b_PM_remove 21 = .ok (.getfield 9, 3) := by decide +kernel
theorem d_PM_remove_24 : decode b_PM_remove 24 = .ok (.iload_n 2, 1) := by decide +kernel
theorem d_PM_remove_25 : decode b_PM_remove 25 = .ok (.aload_n 0, 1) := by decide +kernel
theorem d_PM_remove_26 : decode b_PM_remove 26 = .ok (.getfield 9, 3) := by decide +kernel
theorem d_PM_remove_29 : decode b_PM_remove 29 = .ok (.iload_n 2, 1) := by decide +kernel
theorem d_PM_remove_30 : decode b_PM_remove 30 = .ok (.iconst 1, 1) := by decide +kernel
theorem d_PM_remove_31 : decode b_PM_remove 31 = .ok (.iadd, 1) := by decide +kernel
theorem d_PM_remove_32 : decode b_PM_remove 32 = .ok (.iaload, 1) := by decide +kernel
theorem d_PM_remove_33 : decode b_PM_remove 33 = .ok (.iastore, 1) := by decide +kernel
theorem d_PM_remove_34 : decode b_PM_remove 34 = .ok (.aload_n 0, 1) := by decide +kernel
theorem d_PM_remove_35 : decode b_PM_remove 35 = .ok (.getfield 15, 3) := by decide +kernel
theorem d_PM_remove_38 : decode b_PM_remove 38 = .ok (.iload_n 2, 1) := by decide +kernel
theorem d_PM_remove_39 : decode b_PM_remove 39 = .ok (.aload_n 0, 1) := by decide +kernel
theorem d_PM_remove_40 : decode b_PM_remove 40 = .ok (.getfield 15, 3) := by decide +kernel
theorem d_PM_remove_43 : decode b_PM_remove 43 = .ok (.iload_n 2, 1) := by decide +kernel
theorem d_PM_remove_44 : decode b_PM_remove 44 = .ok (.iconst 1, 1) := by decide +kernel
theorem d_PM_remove_45 : decode b_PM_remove 45 = .ok (.iadd, 1) := by decide +kernel
theorem d_PM_remove_46 : decode b_PM_remove 46 = .ok (.iaload, 1) := by decide +kernel
theorem d_PM_remove_47 : decode b_PM_remove 47 = .ok (.iastore, 1) := by decide +kernel
theorem d_PM_remove_48 : decode b_PM_remove 48 = .ok (.iinc 2 1, 3) := by decide +kernel
theorem d_PM_remove_51 : decode b_PM_remove 51 = .ok (.goto (-39), 3) := by decide +kernel
theorem d_PM_remove_54 : decode b_PM_remove 54 = .ok (.return_, 1) := by decide +kernel
theorem d_PM_copy_0 : decode b_PM_copy 0 = .ok (.aload_n 0, 1) := by decide +kernel
theorem d_PM_copy_1 : decode b_PM_copy 1 = .ok (.aload_n 1, 1) := by decide +kernel
theorem d_PM_copy_2 : decode b_PM_copy 2 = .ok (.getfield 18, 3) := by decide +kernel
theorem d_PM_copy_5 : decode b_PM_copy 5 = .ok (.putfield 18, 3) := by decide +kernel
theorem d_PM_copy_8 : decode b_PM_copy 8 = .ok (.aload_n 1, 1) := by decide +kernel
theorem d_PM_copy_9 : decode b_PM_copy 9 = .ok (.getfield 9, 3) := by decide +kernel
theorem d_PM_copy_12 : decode b_PM_copy 12 = .ok (.iconst 0, 1) := by decide +kernel
theorem d_PM_copy_13 : decode b_PM_copy 13 = .ok (.aload_n 0, 1) := by decide +kernel
theorem d_PM_copy_14 : decode b_PM_copy 14 = .ok (.getfield 9, 3) := by decide +kernel
theorem d_PM_copy_17 : decode b_PM_copy 17 = .ok (.iconst 0, 1) := by decide +kernel
theorem d_PM_copy_18 : decode b_PM_copy 18 = .ok (.aload_n 0, 1) := by decide +kernel
theorem d_PM_copy_19 : decode b_PM_copy 19 = .ok (.getfield 18, 3) := by decide +kernel
theorem d_PM_copy_22 : decode b_PM_copy 22 = .ok (.invokestatic 31, 3) := by decide +kernel
theorem d_PM_copy_25 : decode b_PM_copy 25 = .ok (.aload_n 1, 1) := by decide +kernel
theorem d_PM_copy_26 : decode b_PM_copy 26 = .ok (.getfield 15, 3) := by decide +kernel
theorem d_PM_copy_29 : decode b_PM_copy 29 = .ok (.iconst 0, 1) := by decide +kernel
theorem d_PM_copy_30 : decode b_PM_copy 30 = .ok (.aload_n 0, 1) := by decide +kernel
theorem d_PM_copy_31 : decode b_PM_copy 31 = .ok (.getfield 15, 3) := by decide +kernel
theorem d_PM_copy_34 : decode b_PM_copy 34 = .ok (.iconst 0, 1) := by decide +kernel
theorem d_PM_copy_35 : decode b_PM_copy 35 = .ok (.aload_n 0, 1) := by decide +kernel
theorem d_PM_copy_36 : decode b_PM_copy 36 = .ok (.getfield 18, 3) := by decide +kernel
theorem d_PM_copy_39 : decode b_PM_copy 39 = .ok (.invokestatic 31, 3) := by decide +kernel
theorem d_PM_copy_42 : decode b_PM_copy 42 = .ok (.return_, 1) := by decide +kernel
theorem d_PM_endsAt_0 : decode b_PM_endsAt 0 = .ok (.aload_n 0, 1) := by decide +kernel
theorem d_PM_endsAt_1 : decode b_PM_endsAt 1 = .ok (.getfield 9, 3) := by decide +kernel
theorem d_PM_endsAt_4 : decode b_PM_endsAt 4 = .ok (.iload_n 1, 1) := by decide +kernel
theorem d_PM_endsAt_5 : decode b_PM_endsAt 5 = .ok (.iaload, 1) := by decide +kernel
theorem d_PM_endsAt_6 : decode b_PM_endsAt 6 = .ok (.invokestatic 37, 3) := by decide +kernel
theorem d_PM_endsAt_9 : decode b_PM_endsAt 9 = .ok (.iload_n 2, 1) := by decide +kernel
theorem d_PM_endsAt_10 : decode b_PM_endsAt 10 = .ok (.if_icmp .ne 7, 3) := by decide +kernel
theorem d_PM_endsAt_13 : decode b_PM_endsAt 13 = .ok (.iconst 1, 1) := by decide +kernel
theorem d_PM_endsAt_14 : decode b_PM_endsAt 14 = .ok (.goto 4, 3) := by decide +kernel
theorem d_PM_endsAt_17 : decode b_PM_endsAt 17 = .ok (.iconst 0, 1) := by decide +kernel
theorem d_PM_endsAt_18 : decode b_PM_endsAt 18 = .ok (.ireturn, 1) := by decide +kernel
theorem d_PM_endOfChild_0 : decode b_PM_endOfChild 0 = .ok (.iload_n 1, 1) := by decide +kernel
theorem d_PM_endOfChild_1 : decode b_PM_endOfChild 1 = .ok (.istore 5, 2) := by decide +kernel
theorem d_PM_endOfChild_3 : decode b_PM_endOfChild 3 = .ok (.iload 5, 2) := by decide +kernel
theorem d_PM_endOfChild_5 : decode b_PM_endOfChild 5 = .ok (.iload_n 2, 1) := by decide +kernel
theorem d_PM_endOfChild_6 : decode b_PM_endOfChild 6 = .ok (.if_icmp .ge 25, 3) := by decide +kernel
theorem d_PM_endOfChild_9 : decode b_PM_endOfChild 9 = .ok (.aload_n 0, 1) := by decide +kernel
theorem d_PM_endOfChild_10 : decode b_PM_endOfChild 10 = .ok (.getfield 9, 3) := by decide +kernel
theorem d_PM_endOfChild_13 : decode b_PM_endOfChild 13 = .ok (.iload 5, 2) := by decide +kernel
theorem d_PM_endOfChild_15 : decode b_PM_endOfChild 15 = .ok (.iaload, 1) := by decide +kernel
theorem d_PM_endOfChild_16 : decode b_PM_endOfChild 16 = .ok (.iload_n 3, 1) := by decide +kernel
theorem d_PM_endOfChild_17 : decode b_PM_endOfChild 17 = .ok (.invokestatic 40, 3) := by decide +kernel
theorem d_PM_endOfChild_20 : decode b_PM_endOfChild 20 = .ok (.iload 4, 2) := by decide +kernel
theorem d_PM_endOfChild_22 : decode b_PM_endOfChild 22 = .ok (.if_icmp .ne 9, 3) := by decide +kernel
theorem d_PM_endOfChild_25 : decode b_PM_endOfChild 25 = .ok (.iinc 5 1, 3) := by decide +kernel
theorem d_PM_endOfChild_28 : decode b_PM_endOfChild 28 = .ok (.goto (-25), 3) := by decide +kernel
theorem d_PM_endOfChild_31 : decode b_PM_endOfChild 31 = .ok (.iload 5, 2) := by decide +kernel
theorem d_PM_endOfChild_33 : decode b_PM_endOfChild 33 = .ok (.ireturn, 1) := by decide +kernel
theorem d_PF_has_0 : decode b_PF_has 0 = .ok (.iload_n 1, 1) := by decide +kernel
theorem d_PF_has_1 : decode b_PF_has 1 = .ok (.ifCond .lt 15, 3) := by decide +kernel
theorem d_PF_has_4 : decode b_PF_has 4 = .ok (.iload_n 1, 1) := by decide +kernel
theorem d_PF_has_5 : decode b_PF_has 5 = .ok (.aload_n 0, 1) := by decide +kernel
theorem d_PF_has_6 : decode b_PF_has 6 = .ok (.getfield 15, 3) := by decide +kernel
theorem d_PF_has_9 : decode b_PF_has 9 = .ok (.if_icmp .ge 7, 3) := by decide +kernel
theorem d_PF_has_12 : decode b_PF_has 12 = .ok (.iconst 1, 1) := by decide +kernel
theorem d_PF_has_13 : decode b_PF_has 13 = .ok (.goto 4, 3) := by decide +kernel
theorem d_PF_has_16 : decode b_PF_has 16 = .ok (.iconst 0, 1) := by decide +kernel
theorem d_PF_has_17 : decode b_PF_has 17 = .ok (.ireturn, 1) := by decide +kernel
theorem d_PF_shows_0 : decode b_PF_shows 0 = .ok (.aload_n 0, 1) := by decide +kernel
theorem d_PF_shows_1 : decode b_PF_shows 1 = .ok (.iconst 0, 1) := by decide +kernel
theorem d_PF_shows_2 : decode b_PF_shows 2 = .ok (.putfield 19, 3) := by decide +kernel
theorem d_PF_shows_5 : decode b_PF_shows 5 = .ok (.aload_n 0, 1) := by decide +kernel
theorem d_PF_shows_6 : decode b_PF_shows 6 = .ok (.iload_n 3, 1) := by decide +kernel
theorem d_PF_shows_7 : decode b_PF_shows 7 = .ok (.putfield 27, 3) := by decide +kernel
theorem d_PF_shows_10 : decode b_PF_shows 10 = .ok (.aload_n 0, 1) := by decide +kernel
theorem d_PF_shows_11 : decode b_PF_shows 11 = .ok (.lload_n 1, 1) := by decide +kernel
theorem d_PF_shows_12 : decode b_PF_shows 12 = .ok (.invokevirtual 40, 3) := by decide +kernel
theorem d_PF_shows_15 : decode b_PF_shows 15 = .ok (.iconst 0, 1) := by decide +kernel
theorem d_PF_shows_16 : decode b_PF_shows 16 = .ok (.istore 6, 2) := by decide +kernel
theorem d_PF_shows_18 : decode b_PF_shows 18 = .ok (.iload 6, 2) := by decide +kernel
theorem d_PF_shows_20 : decode b_PF_shows 20 = .ok (.iconst 5, 1) := by decide +kernel
theorem d_PF_shows_21 : decode b_PF_shows 21 = .ok (.if_icmp .ge 79, 3) := by decide +kernel
theorem d_PF_shows_24 : decode b_PF_shows 24 = .ok (.aload_n 0, 1) := by decide +kernel
theorem d_PF_shows_25 : decode b_PF_shows 25 = .ok (.getfield 19, 3) := by decide +kernel
theorem d_PF_shows_28 : decode b_PF_shows 28 = .ok (.ifCond .ne 72, 3) := by decide +kernel
theorem d_PF_shows_31 : decode b_PF_shows 31 = .ok (.aload_n 0, 1) := by decide +kernel
theorem d_PF_shows_32 : decode b_PF_shows 32 = .ok (.getfield 33, 3) := by decide +kernel
theorem d_PF_shows_35 : decode b_PF_shows 35 = .ok (.ifCond .ne 11, 3) := by decide +kernel
theorem d_PF_shows_38 : decode b_PF_shows 38 = .ok (.aload_n 0, 1) := by decide +kernel
theorem d_PF_shows_39 : decode b_PF_shows 39 = .ok (.lconst 0, 1) := by decide +kernel
theorem d_PF_shows_40 : decode b_PF_shows 40 = .ok (.invokevirtual 44, 3) := by decide +kernel
theorem d_PF_shows_43 : decode b_PF_shows 43 = .ok (.goto 51, 3) := by decide +kernel
theorem d_PF_shows_46 : decode b_PF_shows 46 = .ok (.aload_n 0, 1) := by decide +kernel
theorem d_PF_shows_47 : decode b_PF_shows 47 = .ok (.getfield 33, 3) := by decide +kernel
theorem d_PF_shows_50 : decode b_PF_shows 50 = .ok (.iconst 1, 1) := by decide +kernel
theorem d_PF_shows_51 : decode b_PF_shows 51 = .ok (.if_icmp .ne 19, 3) := by decide +kernel
theorem d_PF_shows_54 : decode b_PF_shows 54 = .ok (.aload_n 0, 1) := by decide +kernel
theorem d_PF_shows_55 : decode b_PF_shows 55 = .ok (.aload_n 0, 1) := by decide +kernel
theorem d_PF_shows_56 : decode b_PF_shows 56 = .ok (.getfield 9, 3) := by decide +kernel
theorem d_PF_shows_59 : decode b_PF_shows 59 = .ok (.aload_n 0, 1) := by decide +kernel
theorem d_PF_shows_60 : decode b_PF_shows 60 = .ok (.getfield 30, 3) := by decide +kernel
theorem d_PF_shows_63 : decode b_PF_shows 63 = .ok (.laload, 1) := by decide +kernel
theorem d_PF_shows_64 : decode b_PF_shows 64 = .ok (.invokevirtual 47, 3) := by decide +kernel
theorem d_PF_shows_67 : decode b_PF_shows 67 = .ok (.goto 27, 3) := by decide +kernel
theorem d_PF_shows_70 : decode b_PF_shows 70 = .ok (.aload_n 0, 1) := by decide +kernel
theorem d_PF_shows_71 : decode b_PF_shows 71 = .ok (.aload_n 0, 1) := by decide +kernel
theorem d_PF_shows_72 : decode b_PF_shows 72 = .ok (.getfield 9, 3) := by decide +kernel
theorem d_PF_shows_75 : decode b_PF_shows 75 = .ok (.aload_n 0, 1) := by decide +kernel
theorem d_PF_shows_76 : decode b_PF_shows 76 = .ok (.getfield 30, 3) := by decide +kernel
theorem d_PF_shows_79 : decode b_PF_shows 79 = .ok (.laload, 1) := by decide +kernel
theorem d_PF_shows_80 : decode b_PF_shows 80 = .ok (.aload_n 0, 1) := by decide +kernel
theorem d_PF_shows_81 : decode b_PF_shows 81 = .ok (.getfield 9, 3) := by decide +kernel
theorem d_PF_shows_84 : decode b_PF_shows 84 = .ok (.aload_n 0, 1) := by decide +kernel
theorem d_PF_shows_85 : decode b_PF_shows 85 = .ok (.getfield 30, 3) := by decide +kernel
theorem d_PF_shows_88 : decode b_PF_shows 88 = .ok (.iconst 1, 1) := by decide +kernel
theorem d_PF_shows_89 : decode b_PF_shows 89 = .ok (.iadd, 1) := by decide +kernel
theorem d_PF_shows_90 : decode b_PF_shows 90 = .ok (.laload, 1) := by decide +kernel
theorem d_PF_shows_91 : decode b_PF_shows 91 = .ok (.invokevirtual 50, 3) := by decide +kernel
theorem d_PF_shows_94 : decode b_PF_shows 94 = .ok (.iinc 6 1, 3) := by decide +kernel
theorem d_PF_shows_97 : decode b_PF_shows 97 = .ok (.goto (-79), 3) := by decide +kernel
theorem d_PF_shows_100 : decode b_PF_shows 100 = .ok (.aload_n 0, 1) := by decide +kernel
theorem d_PF_shows_101 : decode b_PF_shows 101 = .ok (.getfield 19, 3) := by decide +kernel
theorem d_PF_shows_104 : decode b_PF_shows 104 = .ok (.iconst 1, 1) := by decide +kernel
theorem d_PF_shows_105 : decode b_PF_shows 105 = .ok (.if_icmp .ne 28, 3) := by decide +kernel
theorem d_PF_shows_108 : decode b_PF_shows 108 = .ok (.aload_n 0, 1) := by decide +kernel
end
section
theorem d_PF_shows_109 : decode b_PF_shows 109 = .ok (.getfield 22, 3) := by decide +kernel
theorem d_PF_shows_112 : decode b_PF_shows 112 = .ok (.aload_n 0, 1) := by decide +kernel
theorem d_PF_shows_113 : decode b_PF_shows 113 = .ok (.getfield 15, 3) := by decide +kernel
theorem d_PF_shows_116 : decode b_PF_shows 116 = .ok (.if_icmp .ne 17, 3) := by decide +kernel
theorem d_PF_shows_119 : decode b_PF_shows 119 = .ok (.aload_n 0, 1) := by decide +kernel
theorem d_PF_shows_120 : decode b_PF_shows 120 = .ok (.getfield 36, 3) := by decide +kernel
theorem d_PF_shows_123 : decode b_PF_shows 123 = .ok (.lload 4, 2) := by decide +kernel
theorem d_PF_shows_125 : decode b_PF_shows 125 = .ok (.lcmp, 1) := by decide +kernel
theorem d_PF_shows_126 : decode b_PF_shows 126 = .ok (.ifCond .ne 7, 3) := by decide +kernel
theorem d_PF_shows_129 : decode b_PF_shows 129 = .ok (.iconst 1, 1) := by decide +kernel
theorem d_PF_shows_130 : decode b_PF_shows 130 = .ok (.goto 4, 3) := by decide +kernel
theorem d_PF_shows_133 : decode b_PF_shows 133 = .ok (.iconst 0, 1) := by decide +kernel
theorem d_PF_shows_134 : decode b_PF_shows 134 = .ok (.ireturn, 1) := by decide +kernel
theorem d_PF_end_0 : decode b_PF_end 0 = .ok (.aload_n 0, 1) := by decide +kernel
theorem d_PF_end_1 : decode b_PF_end 1 = .ok (.iconst 1, 1) := by decide +kernel
theorem d_PF_end_2 : decode b_PF_end 2 = .ok (.putfield 19, 3) := by decide +kernel
theorem d_PF_end_5 : decode b_PF_end 5 = .ok (.aload_n 0, 1) := by decide +kernel
theorem d_PF_end_6 : decode b_PF_end 6 = .ok (.lload_n 1, 1) := by decide +kernel
theorem d_PF_end_7 : decode b_PF_end 7 = .ok (.putfield 36, 3) := by decide +kernel
theorem d_PF_end_10 : decode b_PF_end 10 = .ok (.return_, 1) := by decide +kernel
theorem d_PF_hasReference_0 : decode b_PF_hasReference 0 = .ok (.aload_n 0, 1) := by decide +kernel
theorem d_PF_hasReference_1 : decode b_PF_hasReference 1 = .ok (.iload_n 1, 1) := by decide +kernel
theorem d_PF_hasReference_2 : decode b_PF_hasReference 2 = .ok (.invokevirtual 54, 3) := by decide +kernel
theorem d_PF_hasReference_5 : decode b_PF_hasReference 5 = .ok (.ifCond .eq 49, 3) := by decide +kernel
theorem d_PF_hasReference_8 : decode b_PF_hasReference 8 = .ok (.aload_n 0, 1) := by decide +kernel
theorem d_PF_hasReference_9 : decode b_PF_hasReference 9 = .ok (.getfield 9, 3) := by decide +kernel
theorem d_PF_hasReference_12 : decode b_PF_hasReference 12 = .ok (.iload_n 1, 1) := by decide +kernel
theorem d_PF_hasReference_13 : decode b_PF_hasReference 13 = .ok (.laload, 1) := by decide +kernel
theorem d_PF_hasReference_14 : decode b_PF_hasReference 14 = .ok (.lconst 0, 1) := by decide +kernel
theorem d_PF_hasReference_15 : decode b_PF_hasReference 15 = .ok (.lcmp, 1) := by decide +kernel
theorem d_PF_hasReference_16 : decode b_PF_hasReference 16 = .ok (.ifCond .lt 38, 3) := by decide +kernel
theorem d_PF_hasReference_19 : decode b_PF_hasReference 19 = .ok (.aload_n 0, 1) := by decide +kernel
theorem d_PF_hasReference_20 : decode b_PF_hasReference 20 = .ok (.getfield 9, 3) := by decide +kernel
theorem d_PF_hasReference_23 : decode b_PF_hasReference 23 = .ok (.iload_n 1, 1) := by decide +kernel
theorem d_PF_hasReference_24 : decode b_PF_hasReference 24 = .ok (.laload, 1) := by decide +kernel
theorem d_PF_hasReference_25 : decode b_PF_hasReference 25 = .ok (.ldc2_w 58, 3) := by decide +kernel
theorem d_PF_hasReference_28 : decode b_PF_hasReference 28 = .ok (.lcmp, 1) := by decide +kernel
theorem d_PF_hasReference_29 : decode b_PF_hasReference 29 = .ok (.ifCond .gt 25, 3) := by decide +kernel
theorem d_PF_hasReference_32 : decode b_PF_hasReference 32 = .ok (.iload_n 1, 1) := by decide +kernel
theorem d_PF_hasReference_33 : decode b_PF_hasReference 33 = .ok (.i2l, 1) := by decide +kernel
theorem d_PF_hasReference_34 : decode b_PF_hasReference 34 = .ok (.aload_n 0, 1) := by decide +kernel
theorem d_PF_hasReference_35 : decode b_PF_hasReference 35 = .ok (.getfield 9, 3) := by decide +kernel
theorem d_PF_hasReference_38 : decode b_PF_hasReference 38 = .ok (.iload_n 1, 1) := by decide +kernel
theorem d_PF_hasReference_39 : decode b_PF_hasReference 39 = .ok (.laload, 1) := by decide +kernel
theorem d_PF_hasReference_40 : decode b_PF_hasReference 40 = .ok (.ladd, 1) := by decide +kernel
theorem d_PF_hasReference_41 : decode b_PF_hasReference 41 = .ok (.aload_n 0, 1) := by decide +kernel
theorem d_PF_hasReference_42 : decode b_PF_hasReference 42 = .ok (.getfield 15, 3) := by decide +kernel
theorem d_PF_hasReference_45 : decode b_PF_hasReference 45 = .ok (.i2l, 1) := by decide +kernel
theorem d_PF_hasReference_46 : decode b_PF_hasReference 46 = .ok (.lcmp, 1) := by decide +kernel
theorem d_PF_hasReference_47 : decode b_PF_hasReference 47 = .ok (.ifCond .ge 7, 3) := by decide +kernel
theorem d_PF_hasReference_50 : decode b_PF_hasReference 50 = .ok (.iconst 1, 1) := by decide +kernel
theorem d_PF_hasReference_51 : decode b_PF_hasReference 51 = .ok (.goto 4, 3) := by decide +kernel
theorem d_PF_hasReference_54 : decode b_PF_hasReference 54 = .ok (.iconst 0, 1) := by decide +kernel
theorem d_PF_hasReference_55 : decode b_PF_hasReference 55 = .ok (.ireturn, 1) := by decide +kernel
theorem d_PF_takeTopReference_0 : decode b_PF_takeTopReference 0 = .ok (.aload_n 0, 1) := by decide +kernel
theorem d_PF_takeTopReference_1 : decode b_PF_takeTopReference 1 = .ok (.iconst 0, 1) := by decide +kernel
theorem d_PF_takeTopReference_2 : decode b_PF_takeTopReference 2 = .ok (.invokevirtual 60, 3) := by decide +kernel
theorem d_PF_takeTopReference_5 : decode b_PF_takeTopReference 5 = .ok (.ifCond .ne 9, 3) := by decide +kernel
theorem d_PF_takeTopReference_8 : decode b_PF_takeTopReference 8 = .ok (.aload_n 0, 1) := by decide +kernel
theorem d_PF_takeTopReference_9 : decode b_PF_takeTopReference 9 = .ok (.iconst 2, 1) := by decide +kernel
theorem d_PF_takeTopReference_10 : decode b_PF_takeTopReference 10 = .ok (.putfield 19, 3) := by decide +kernel
theorem d_PF_takeTopReference_13 : decode b_PF_takeTopReference 13 = .ok (.return_, 1) := by decide +kernel
theorem d_PF_takeTopReference_14 : decode b_PF_takeTopReference 14 = .ok (.aload_n 0, 1) := by decide +kernel
theorem d_PF_takeTopReference_15 : decode b_PF_takeTopReference 15 = .ok (.iconst 1, 1) := by decide +kernel
theorem d_PF_takeTopReference_16 : decode b_PF_takeTopReference 16 = .ok (.putfield 30, 3) := by decide +kernel
theorem d_PF_takeTopReference_19 : decode b_PF_takeTopReference 19 = .ok (.aload_n 0, 1) := by decide +kernel
theorem d_PF_takeTopReference_20 : decode b_PF_takeTopReference 20 = .ok (.aload_n 0, 1) := by decide +kernel
theorem d_PF_takeTopReference_21 : decode b_PF_takeTopReference 21 = .ok (.getfield 9, 3) := by decide +kernel
theorem d_PF_takeTopReference_24 : decode b_PF_takeTopReference 24 = .ok (.iconst 0, 1) := by decide +kernel
theorem d_PF_takeTopReference_25 : decode b_PF_takeTopReference 25 = .ok (.laload, 1) := by decide +kernel
theorem d_PF_takeTopReference_26 : decode b_PF_takeTopReference 26 = .ok (.l2i, 1) := by decide +kernel
theorem d_PF_takeTopReference_27 : decode b_PF_takeTopReference 27 = .ok (.putfield 33, 3) := by decide +kernel
theorem d_PF_takeTopReference_30 : decode b_PF_takeTopReference 30 = .ok (.aload_n 0, 1) := by decide +kernel
theorem d_PF_takeTopReference_31 : decode b_PF_takeTopReference 31 = .ok (.iconst 1, 1) := by decide +kernel
theorem d_PF_takeTopReference_32 : decode b_PF_takeTopReference 32 = .ok (.aload_n 0, 1) := by decide +kernel
theorem d_PF_takeTopReference_33 : decode b_PF_takeTopReference 33 = .ok (.getfield 33, 3) := by decide +kernel
theorem d_PF_takeTopReference_36 : decode b_PF_takeTopReference 36 = .ok (.iadd, 1) := by decide +kernel
theorem d_PF_takeTopReference_37 : decode b_PF_takeTopReference 37 = .ok (.putfield 22, 3) := by decide +kernel
theorem d_PF_takeTopReference_40 : decode b_PF_takeTopReference 40 = .ok (.aload_n 0, 1) := by decide +kernel
theorem d_PF_takeTopReference_41 : decode b_PF_takeTopReference 41 = .ok (.getfield 9, 3) := by decide +kernel
theorem d_PF_takeTopReference_44 : decode b_PF_takeTopReference 44 = .ok (.iconst 1, 1) := by decide +kernel
theorem d_PF_takeTopReference_45 : decode b_PF_takeTopReference 45 = .ok (.aload_n 0, 1) := by decide +kernel
theorem d_PF_takeTopReference_46 : decode b_PF_takeTopReference 46 = .ok (.getfield 33, 3) := by decide +kernel
theorem d_PF_takeTopReference_49 : decode b_PF_takeTopReference 49 = .ok (.invokestatic 63, 3) := by decide +kernel
theorem d_PF_takeTopReference_52 : decode b_PF_takeTopReference 52 = .ok (.lload_n 1, 1) := by decide +kernel
theorem d_PF_takeTopReference_53 : decode b_PF_takeTopReference 53 = .ok (.lcmp, 1) := by decide +kernel
theorem d_PF_takeTopReference_54 : decode b_PF_takeTopReference 54 = .ok (.ifCond .eq 8, 3) := by decide +kernel
theorem d_PF_takeTopReference_57 : decode b_PF_takeTopReference 57 = .ok (.aload_n 0, 1) := by decide +kernel
theorem d_PF_takeTopReference_58 : decode b_PF_takeTopReference 58 = .ok (.iconst 2, 1) := by decide +kernel
theorem d_PF_takeTopReference_59 : decode b_PF_takeTopReference 59 = .ok (.putfield 19, 3) := by decide +kernel
theorem d_PF_takeTopReference_62 : decode b_PF_takeTopReference 62 = .ok (.return_, 1) := by decide +kernel
theorem d_PF_followPair_0 : decode b_PF_followPair 0 = .ok (.lload_n 1, 1) := by decide +kernel
theorem d_PF_followPair_1 : decode b_PF_followPair 1 = .ok (.iconst 1, 1) := by decide +kernel
theorem d_PF_followPair_2 : decode b_PF_followPair 2 = .ok (.lshr, 1) := by decide +kernel
theorem d_PF_followPair_3 : decode b_PF_followPair 3 = .ok (.lstore 5, 2) := by decide +kernel
theorem d_PF_followPair_5 : decode b_PF_followPair 5 = .ok (.lload_n 1, 1) := by decide +kernel
theorem d_PF_followPair_6 : decode b_PF_followPair 6 = .ok (.lconst 1, 1) := by decide +kernel
theorem d_PF_followPair_7 : decode b_PF_followPair 7 = .ok (.land, 1) := by decide +kernel
theorem d_PF_followPair_8 : decode b_PF_followPair 8 = .ok (.lconst 1, 1) := by decide +kernel
theorem d_PF_followPair_9 : decode b_PF_followPair 9 = .ok (.lcmp, 1) := by decide +kernel
theorem d_PF_followPair_10 : decode b_PF_followPair 10 = .ok (.ifCond .ne 7, 3) := by decide +kernel
theorem d_PF_followPair_13 : decode b_PF_followPair 13 = .ok (.iconst 1, 1) := by decide +kernel
theorem d_PF_followPair_14 : decode b_PF_followPair 14 = .ok (.goto 4, 3) := by decide +kernel
theorem d_PF_followPair_17 : decode b_PF_followPair 17 = .ok (.iconst 0, 1) := by decide +kernel
theorem d_PF_followPair_18 : decode b_PF_followPair 18 = .ok (.istore 7, 2) := by decide +kernel
theorem d_PF_followPair_20 : decode b_PF_followPair 20 = .ok (.lload 5, 2) := by decide +kernel
theorem d_PF_followPair_22 : decode b_PF_followPair 22 = .ok (.invokestatic 67, 3) := by decide +kernel
theorem d_PF_followPair_25 : decode b_PF_followPair 25 = .ok (.ifCond .eq 15, 3) := by decide +kernel
theorem d_PF_followPair_28 : decode b_PF_followPair 28 = .ok (.iload 7, 2) := by decide +kernel
theorem d_PF_followPair_30 : decode b_PF_followPair 30 = .ok (.ifCond .ne 16, 3) := by decide +kernel
theorem d_PF_followPair_33 : decode b_PF_followPair 33 = .ok (.lload 5, 2) := by decide +kernel
theorem d_PF_followPair_35 : decode b_PF_followPair 35 = .ok (.lconst 1, 1) := by decide +kernel
theorem d_PF_followPair_36 : decode b_PF_followPair 36 = .ok (.lcmp, 1) := by decide +kernel
theorem d_PF_followPair_37 : decode b_PF_followPair 37 = .ok (.ifCond .ne 9, 3) := by decide +kernel
theorem d_PF_followPair_40 : decode b_PF_followPair 40 = .ok (.aload_n 0, 1) := by decide +kernel
theorem d_PF_followPair_41 : decode b_PF_followPair 41 = .ok (.iconst 2, 1) := by decide +kernel
theorem d_PF_followPair_42 : decode b_PF_followPair 42 = .ok (.putfield 19, 3) := by decide +kernel
theorem d_PF_followPair_45 : decode b_PF_followPair 45 = .ok (.return_, 1) := by decide +kernel
theorem d_PF_followPair_46 : decode b_PF_followPair 46 = .ok (.lload 5, 2) := by decide +kernel
theorem d_PF_followPair_48 : decode b_PF_followPair 48 = .ok (.l2i, 1) := by decide +kernel
theorem d_PF_followPair_49 : decode b_PF_followPair 49 = .ok (.istore 8, 2) := by decide +kernel
theorem d_PF_followPair_51 : decode b_PF_followPair 51 = .ok (.iload 7, 2) := by decide +kernel
theorem d_PF_followPair_53 : decode b_PF_followPair 53 = .ok (.ifCond .eq 24, 3) := by decide +kernel
theorem d_PF_followPair_56 : decode b_PF_followPair 56 = .ok (.aload_n 0, 1) := by decide +kernel
theorem d_PF_followPair_57 : decode b_PF_followPair 57 = .ok (.aload_n 0, 1) := by decide +kernel
theorem d_PF_followPair_58 : decode b_PF_followPair 58 = .ok (.getfield 27, 3) := by decide +kernel
theorem d_PF_followPair_61 : decode b_PF_followPair 61 = .ok (.iload 8, 2) := by decide +kernel
theorem d_PF_followPair_63 : decode b_PF_followPair 63 = .ok (.if_icmp .ne 7, 3) := by decide +kernel
theorem d_PF_followPair_66 : decode b_PF_followPair 66 = .ok (.lload_n 3, 1) := by decide +kernel
theorem d_PF_followPair_67 : decode b_PF_followPair 67 = .ok (.goto 4, 3) := by decide +kernel
theorem d_PF_followPair_70 : decode b_PF_followPair 70 = .ok (.lconst 0, 1) := by decide +kernel
theorem d_PF_followPair_71 : decode b_PF_followPair 71 = .ok (.invokevirtual 44, 3) := by decide +kernel
theorem d_PF_followPair_74 : decode b_PF_followPair 74 = .ok (.goto 54, 3) := by decide +kernel
theorem d_PF_followPair_77 : decode b_PF_followPair 77 = .ok (.aload_n 0, 1) := by decide +kernel
theorem d_PF_followPair_78 : decode b_PF_followPair 78 = .ok (.getfield 27, 3) := by decide +kernel
theorem d_PF_followPair_81 : decode b_PF_followPair 81 = .ok (.iload 8, 2) := by decide +kernel
theorem d_PF_followPair_83 : decode b_PF_followPair 83 = .ok (.invokestatic 71, 3) := by decide +kernel
theorem d_PF_followPair_86 : decode b_PF_followPair 86 = .ok (.ifCond .ne 11, 3) := by decide +kernel
theorem d_PF_followPair_89 : decode b_PF_followPair 89 = .ok (.aload_n 0, 1) := by decide +kernel
theorem d_PF_followPair_90 : decode b_PF_followPair 90 = .ok (.lconst 0, 1) := by decide +kernel
theorem d_PF_followPair_91 : decode b_PF_followPair 91 = .ok (.invokevirtual 44, 3) := by decide +kernel
theorem d_PF_followPair_94 : decode b_PF_followPair 94 = .ok (.goto 34, 3) := by decide +kernel
theorem d_PF_followPair_97 : decode b_PF_followPair 97 = .ok (.aload_n 0, 1) := by decide +kernel
theorem d_PF_followPair_98 : decode b_PF_followPair 98 = .ok (.aload_n 0, 1) := by decide +kernel
theorem d_PF_followPair_99 : decode b_PF_followPair 99 = .ok (.getfield 27, 3) := by decide +kernel
theorem d_PF_followPair_102 : decode b_PF_followPair 102 = .ok (.iload 8, 2) := by decide +kernel
theorem d_PF_followPair_104 : decode b_PF_followPair 104 = .ok (.invokestatic 75, 3) := by decide +kernel
theorem d_PF_followPair_107 : decode b_PF_followPair 107 = .ok (.invokestatic 78, 3) := by decide +kernel
theorem d_PF_followPair_110 : decode b_PF_followPair 110 = .ok (.putfield 27, 3) := by decide +kernel
theorem d_PF_followPair_113 : decode b_PF_followPair 113 = .ok (.aload_n 0, 1) := by decide +kernel
theorem d_PF_followPair_114 : decode b_PF_followPair 114 = .ok (.dup, 1) := by decide +kernel
theorem d_PF_followPair_115 : decode b_PF_followPair 115 = .ok (.getfield 30, 3) := by decide +kernel
theorem d_PF_followPair_118 : decode b_PF_followPair 118 = .ok (.iconst 1, 1) := by decide +kernel
theorem d_PF_followPair_119 : decode b_PF_followPair 119 = .ok (.iadd, 1) := by decide +kernel
theorem d_PF_followPair_120 : decode b_PF_followPair 120 = .ok (.putfield 30, 3) := by decide +kernel
theorem d_PF_followPair_123 : decode b_PF_followPair 123 = .ok (.aload_n 0, 1) := by decide +kernel
theorem d_PF_followPair_124 : decode b_PF_followPair 124 = .ok (.iconst 1, 1) := by decide +kernel
theorem d_PF_followPair_125 : decode b_PF_followPair 125 = .ok (.putfield 33, 3) := by decide +kernel
theorem d_PF_followPair_128 : decode b_PF_followPair 128 = .ok (.return_, 1) := by decide +kernel
theorem d_PF_followDigest_0 : decode b_PF_followDigest 0 = .ok (.aload_n 0, 1) := by decide +kernel
theorem d_PF_followDigest_1 : decode b_PF_followDigest 1 = .ok (.getfield 22, 3) := by decide +kernel
theorem d_PF_followDigest_4 : decode b_PF_followDigest 4 = .ok (.istore_n 3, 1) := by decide +kernel
theorem d_PF_followDigest_5 : decode b_PF_followDigest 5 = .ok (.aload_n 0, 1) := by decide +kernel
theorem d_PF_followDigest_6 : decode b_PF_followDigest 6 = .ok (.getfield 27, 3) := by decide +kernel
theorem d_PF_followDigest_9 : decode b_PF_followDigest 9 = .ok (.iconst 1, 1) := by decide +kernel
theorem d_PF_followDigest_10 : decode b_PF_followDigest 10 = .ok (.if_icmp .ne 7, 3) := by decide +kernel
theorem d_PF_followDigest_13 : decode b_PF_followDigest 13 = .ok (.iconst (-1), 1) := by decide +kernel
theorem d_PF_followDigest_14 : decode b_PF_followDigest 14 = .ok (.goto 11, 3) := by decide +kernel
theorem d_PF_followDigest_17 : decode b_PF_followDigest 17 = .ok (.aload_n 0, 1) := by decide +kernel
theorem d_PF_followDigest_18 : decode b_PF_followDigest 18 = .ok (.getfield 27, 3) := by decide +kernel
theorem d_PF_followDigest_21 : decode b_PF_followDigest 21 = .ok (.iconst 0, 1) := by decide +kernel
theorem d_PF_followDigest_22 : decode b_PF_followDigest 22 = .ok (.invokestatic 82, 3) := by decide +kernel
theorem d_PF_followDigest_25 : decode b_PF_followDigest 25 = .ok (.istore 4, 2) := by decide +kernel
theorem d_PF_followDigest_27 : decode b_PF_followDigest 27 = .ok (.iload_n 3, 1) := by decide +kernel
theorem d_PF_followDigest_28 : decode b_PF_followDigest 28 = .ok (.istore 5, 2) := by decide +kernel
theorem d_PF_followDigest_30 : decode b_PF_followDigest 30 = .ok (.iconst 0, 1) := by decide +kernel
theorem d_PF_followDigest_31 : decode b_PF_followDigest 31 = .ok (.istore 6, 2) := by decide +kernel
theorem d_PF_followDigest_33 : decode b_PF_followDigest 33 = .ok (.iload 6, 2) := by decide +kernel
theorem d_PF_followDigest_35 : decode b_PF_followDigest 35 = .ok (.bipush 16, 2) := by decide +kernel
theorem d_PF_followDigest_37 : decode b_PF_followDigest 37 = .ok (.if_icmp .ge 66, 3) := by decide +kernel
theorem d_PF_followDigest_40 : decode b_PF_followDigest 40 = .ok (.aload_n 0, 1) := by decide +kernel
theorem d_PF_followDigest_41 : decode b_PF_followDigest 41 = .ok (.iload 5, 2) := by decide +kernel
theorem d_PF_followDigest_43 : decode b_PF_followDigest 43 = .ok (.invokevirtual 60, 3) := by decide +kernel
theorem d_PF_followDigest_46 : decode b_PF_followDigest 46 = .ok (.ifCond .ne 9, 3) := by decide +kernel
theorem d_PF_followDigest_49 : decode b_PF_followDigest 49 = .ok (.aload_n 0, 1) := by decide +kernel
theorem d_PF_followDigest_50 : decode b_PF_followDigest 50 = .ok (.iconst 2, 1) := by decide +kernel
theorem d_PF_followDigest_51 : decode b_PF_followDigest 51 = .ok (.putfield 19, 3) := by decide +kernel
theorem d_PF_followDigest_54 : decode b_PF_followDigest 54 = .ok (.return_, 1) := by decide +kernel
theorem d_PF_followDigest_55 : decode b_PF_followDigest 55 = .ok (.iload 6, 2) := by decide +kernel
theorem d_PF_followDigest_57 : decode b_PF_followDigest 57 = .ok (.iload 4, 2) := by decide +kernel
theorem d_PF_followDigest_59 : decode b_PF_followDigest 59 = .ok (.if_icmp .ne 23, 3) := by decide +kernel
theorem d_PF_followDigest_62 : decode b_PF_followDigest 62 = .ok (.aload_n 0, 1) := by decide +kernel
theorem d_PF_followDigest_63 : decode b_PF_followDigest 63 = .ok (.iload 5, 2) := by decide +kernel
theorem d_PF_followDigest_65 : decode b_PF_followDigest 65 = .ok (.iconst 1, 1) := by decide +kernel
theorem d_PF_followDigest_66 : decode b_PF_followDigest 66 = .ok (.iadd, 1) := by decide +kernel
theorem d_PF_followDigest_67 : decode b_PF_followDigest 67 = .ok (.putfield 30, 3) := by decide +kernel
theorem d_PF_followDigest_70 : decode b_PF_followDigest 70 = .ok (.aload_n 0, 1) := by decide +kernel
theorem d_PF_followDigest_71 : decode b_PF_followDigest 71 = .ok (.aload_n 0, 1) := by decide +kernel
theorem d_PF_followDigest_72 : decode b_PF_followDigest 72 = .ok (.getfield 9, 3) := by decide +kernel
theorem d_PF_followDigest_75 : decode b_PF_followDigest 75 = .ok (.iload 5, 2) := by decide +kernel
theorem d_PF_followDigest_77 : decode b_PF_followDigest 77 = .ok (.laload, 1) := by decide +kernel
theorem d_PF_followDigest_78 : decode b_PF_followDigest 78 = .ok (.l2i, 1) := by decide +kernel
theorem d_PF_followDigest_79 : decode b_PF_followDigest 79 = .ok (.putfield 33, 3) := by decide +kernel
theorem d_PF_followDigest_82 : decode b_PF_followDigest 82 = .ok (.iload 5, 2) := by decide +kernel
theorem d_PF_followDigest_84 : decode b_PF_followDigest 84 = .ok (.iconst 1, 1) := by decide +kernel
theorem d_PF_followDigest_85 : decode b_PF_followDigest 85 = .ok (.aload_n 0, 1) := by decide +kernel
theorem d_PF_followDigest_86 : decode b_PF_followDigest 86 = .ok (.getfield 9, 3) := by decide +kernel
theorem d_PF_followDigest_89 : decode b_PF_followDigest 89 = .ok (.iload 5, 2) := by decide +kernel
theorem d_PF_followDigest_91 : decode b_PF_followDigest 91 = .ok (.laload, 1) := by decide +kernel
theorem d_PF_followDigest_92 : decode b_PF_followDigest 92 = .ok (.l2i, 1) := by decide +kernel
theorem d_PF_followDigest_93 : decode b_PF_followDigest 93 = .ok (.iadd, 1) := by decide +kernel
theorem d_PF_followDigest_94 : decode b_PF_followDigest 94 = .ok (.iadd, 1) := by decide +kernel
theorem d_PF_followDigest_95 : decode b_PF_followDigest 95 = .ok (.istore 5, 2) := by decide +kernel
theorem d_PF_followDigest_97 : decode b_PF_followDigest 97 = .ok (.iinc 6 1, 3) := by decide +kernel
theorem d_PF_followDigest_100 : decode b_PF_followDigest 100 = .ok (.goto (-67), 3) := by decide +kernel
theorem d_PF_followDigest_103 : decode b_PF_followDigest 103 = .ok (.aload_n 0, 1) := by decide +kernel
theorem d_PF_followDigest_104 : decode b_PF_followDigest 104 = .ok (.iload 5, 2) := by decide +kernel
theorem d_PF_followDigest_106 : decode b_PF_followDigest 106 = .ok (.invokevirtual 54, 3) := by decide +kernel
theorem d_PF_followDigest_109 : decode b_PF_followDigest 109 = .ok (.ifCond .eq 22, 3) := by decide +kernel
theorem d_PF_followDigest_112 : decode b_PF_followDigest 112 = .ok (.aload_n 0, 1) := by decide +kernel
theorem d_PF_followDigest_113 : decode b_PF_followDigest 113 = .ok (.getfield 9, 3) := by decide +kernel
theorem d_PF_followDigest_116 : decode b_PF_followDigest 116 = .ok (.iload_n 3, 1) := by decide +kernel
theorem d_PF_followDigest_117 : decode b_PF_followDigest 117 = .ok (.iload 5, 2) := by decide +kernel
theorem d_PF_followDigest_119 : decode b_PF_followDigest 119 = .ok (.iconst 1, 1) := by decide +kernel
theorem d_PF_followDigest_120 : decode b_PF_followDigest 120 = .ok (.iadd, 1) := by decide +kernel
theorem d_PF_followDigest_121 : decode b_PF_followDigest 121 = .ok (.iload_n 3, 1) := by decide +kernel
theorem d_PF_followDigest_122 : decode b_PF_followDigest 122 = .ok (.isub, 1) := by decide +kernel
theorem d_PF_followDigest_123 : decode b_PF_followDigest 123 = .ok (.invokestatic 63, 3) := by decide +kernel
theorem d_PF_followDigest_126 : decode b_PF_followDigest 126 = .ok (.lload_n 1, 1) := by decide +kernel
theorem d_PF_followDigest_127 : decode b_PF_followDigest 127 = .ok (.lcmp, 1) := by decide +kernel
theorem d_PF_followDigest_128 : decode b_PF_followDigest 128 = .ok (.ifCond .eq 9, 3) := by decide +kernel
theorem d_PF_followDigest_131 : decode b_PF_followDigest 131 = .ok (.aload_n 0, 1) := by decide +kernel
theorem d_PF_followDigest_132 : decode b_PF_followDigest 132 = .ok (.iconst 2, 1) := by decide +kernel
theorem d_PF_followDigest_133 : decode b_PF_followDigest 133 = .ok (.putfield 19, 3) := by decide +kernel
theorem d_PF_followDigest_136 : decode b_PF_followDigest 136 = .ok (.return_, 1) := by decide +kernel
theorem d_PF_followDigest_137 : decode b_PF_followDigest 137 = .ok (.aload_n 0, 1) := by decide +kernel
theorem d_PF_followDigest_138 : decode b_PF_followDigest 138 = .ok (.iload 5, 2) := by decide +kernel
theorem d_PF_followDigest_140 : decode b_PF_followDigest 140 = .ok (.iconst 1, 1) := by decide +kernel
theorem d_PF_followDigest_141 : decode b_PF_followDigest 141 = .ok (.iadd, 1) := by decide +kernel
theorem d_PF_followDigest_142 : decode b_PF_followDigest 142 = .ok (.putfield 22, 3) := by decide +kernel
theorem d_PF_followDigest_145 : decode b_PF_followDigest 145 = .ok (.iload 4, 2) := by decide +kernel
theorem d_PF_followDigest_147 : decode b_PF_followDigest 147 = .ok (.iconst (-1), 1) := by decide +kernel
theorem d_PF_followDigest_148 : decode b_PF_followDigest 148 = .ok (.if_icmp .ne 17, 3) := by decide +kernel
theorem d_PF_followDigest_151 : decode b_PF_followDigest 151 = .ok (.aload_n 0, 1) := by decide +kernel
theorem d_PF_followDigest_152 : decode b_PF_followDigest 152 = .ok (.aload_n 0, 1) := by decide +kernel
theorem d_PF_followDigest_153 : decode b_PF_followDigest 153 = .ok (.getfield 9, 3) := by decide +kernel
theorem d_PF_followDigest_156 : decode b_PF_followDigest 156 = .ok (.iload 5, 2) := by decide +kernel
theorem d_PF_followDigest_158 : decode b_PF_followDigest 158 = .ok (.laload, 1) := by decide +kernel
theorem d_PF_followDigest_159 : decode b_PF_followDigest 159 = .ok (.invokevirtual 44, 3) := by decide +kernel
theorem d_PF_followDigest_162 : decode b_PF_followDigest 162 = .ok (.goto 15, 3) := by decide +kernel
theorem d_PF_followDigest_165 : decode b_PF_followDigest 165 = .ok (.aload_n 0, 1) := by decide +kernel
theorem d_PF_followDigest_166 : decode b_PF_followDigest 166 = .ok (.aload_n 0, 1) := by decide +kernel
theorem d_PF_followDigest_167 : decode b_PF_followDigest 167 = .ok (.getfield 27, 3) := by decide +kernel
theorem d_PF_followDigest_170 : decode b_PF_followDigest 170 = .ok (.iconst 1, 1) := by decide +kernel
theorem d_PF_followDigest_171 : decode b_PF_followDigest 171 = .ok (.invokestatic 78, 3) := by decide +kernel
theorem d_PF_followDigest_174 : decode b_PF_followDigest 174 = .ok (.putfield 27, 3) := by decide +kernel
theorem d_PF_followDigest_177 : decode b_PF_followDigest 177 = .ok (.return_, 1) := by decide +kernel
theorem d_TR_change_0 : decode b_TR_change 0 = .ok (.aload_n 0, 1) := by decide +kernel
theorem d_TR_change_1 : decode b_TR_change 1 = .ok (.getfield 12, 3) := by decide +kernel
theorem d_TR_change_4 : decode b_TR_change 4 = .ok (.iload_n 1, 1) := by decide +kernel
theorem d_TR_change_5 : decode b_TR_change 5 = .ok (.invokevirtual 50, 3) := by decide +kernel
theorem d_TR_change_8 : decode b_TR_change 8 = .ok (.istore_n 3, 1) := by decide +kernel
theorem d_TR_change_9 : decode b_TR_change 9 = .ok (.iload_n 3, 1) := by decide +kernel
theorem d_TR_change_10 : decode b_TR_change 10 = .ok (.iconst (-1), 1) := by decide +kernel
theorem d_TR_change_11 : decode b_TR_change 11 = .ok (.if_icmp .ne 22, 3) := by decide +kernel
theorem d_TR_change_14 : decode b_TR_change 14 = .ok (.iload_n 2, 1) := by decide +kernel
theorem d_TR_change_15 : decode b_TR_change 15 = .ok (.ifCond .eq 16, 3) := by decide +kernel
theorem d_TR_change_18 : decode b_TR_change 18 = .ok (.aload_n 0, 1) := by decide +kernel
theorem d_TR_change_19 : decode b_TR_change 19 = .ok (.getfield 12, 3) := by decide +kernel
theorem d_TR_change_22 : decode b_TR_change 22 = .ok (.iload_n 1, 1) := by decide +kernel
theorem d_TR_change_23 : decode b_TR_change 23 = .ok (.iload_n 2, 1) := by decide +kernel
theorem d_TR_change_24 : decode b_TR_change 24 = .ok (.invokevirtual 54, 3) := by decide +kernel
theorem d_TR_change_27 : decode b_TR_change 27 = .ok (.aload_n 0, 1) := by decide +kernel
theorem d_TR_change_28 : decode b_TR_change 28 = .ok (.invokevirtual 58, 3) := by decide +kernel
theorem d_TR_change_31 : decode b_TR_change 31 = .ok (.iconst 0, 1) := by decide +kernel
theorem d_TR_change_32 : decode b_TR_change 32 = .ok (.ireturn, 1) := by decide +kernel
theorem d_TR_change_33 : decode b_TR_change 33 = .ok (.aload_n 0, 1) := by decide +kernel
theorem d_TR_change_34 : decode b_TR_change 34 = .ok (.getfield 12, 3) := by decide +kernel
theorem d_TR_change_37 : decode b_TR_change 37 = .ok (.getfield 61, 3) := by decide +kernel
theorem d_TR_change_40 : decode b_TR_change 40 = .ok (.iload_n 3, 1) := by decide +kernel
theorem d_TR_change_41 : decode b_TR_change 41 = .ok (.iaload, 1) := by decide +kernel
theorem d_TR_change_42 : decode b_TR_change 42 = .ok (.istore 4, 2) := by decide +kernel
theorem d_TR_change_44 : decode b_TR_change 44 = .ok (.iload_n 2, 1) := by decide +kernel
theorem d_TR_change_45 : decode b_TR_change 45 = .ok (.ifCond .ne 18, 3) := by decide +kernel
theorem d_TR_change_48 : decode b_TR_change 48 = .ok (.aload_n 0, 1) := by decide +kernel
theorem d_TR_change_49 : decode b_TR_change 49 = .ok (.getfield 12, 3) := by decide +kernel
theorem d_TR_change_52 : decode b_TR_change 52 = .ok (.iload_n 3, 1) := by decide +kernel
theorem d_TR_change_53 : decode b_TR_change 53 = .ok (.invokevirtual 64, 3) := by decide +kernel
theorem d_TR_change_56 : decode b_TR_change 56 = .ok (.aload_n 0, 1) := by decide +kernel
theorem d_TR_change_57 : decode b_TR_change 57 = .ok (.invokevirtual 58, 3) := by decide +kernel
theorem d_TR_change_60 : decode b_TR_change 60 = .ok (.goto 13, 3) := by decide +kernel
theorem d_TR_change_63 : decode b_TR_change 63 = .ok (.aload_n 0, 1) := by decide +kernel
theorem d_TR_change_64 : decode b_TR_change 64 = .ok (.getfield 12, 3) := by decide +kernel
theorem d_TR_change_67 : decode b_TR_change 67 = .ok (.getfield 61, 3) := by decide +kernel
theorem d_TR_change_70 : decode b_TR_change 70 = .ok (.iload_n 3, 1) := by decide +kernel
theorem d_TR_change_71 : decode b_TR_change 71 = .ok (.iload_n 2, 1) := by decide +kernel
theorem d_TR_change_72 : decode b_TR_change 72 = .ok (.iastore, 1) := by decide +kernel
theorem d_TR_change_73 : decode b_TR_change 73 = .ok (.iload 4, 2) := by decide +kernel
theorem d_TR_change_75 : decode b_TR_change 75 = .ok (.ireturn, 1) := by decide +kernel
theorem d_TR_becomeLike_0 : decode b_TR_becomeLike 0 = .ok (.aload_n 0, 1) := by decide +kernel
theorem d_TR_becomeLike_1 : decode b_TR_becomeLike 1 = .ok (.getfield 12, 3) := by decide +kernel
theorem d_TR_becomeLike_4 : decode b_TR_becomeLike 4 = .ok (.aload_n 1, 1) := by decide +kernel
theorem d_TR_becomeLike_5 : decode b_TR_becomeLike 5 = .ok (.getfield 12, 3) := by decide +kernel
theorem d_TR_becomeLike_8 : decode b_TR_becomeLike 8 = .ok (.invokevirtual 68, 3) := by decide +kernel
theorem d_TR_becomeLike_11 : decode b_TR_becomeLike 11 = .ok (.aload_n 0, 1) := by decide +kernel
theorem d_TR_becomeLike_12 : decode b_TR_becomeLike 12 = .ok (.aload_n 1, 1) := by decide +kernel
theorem d_TR_becomeLike_13 : decode b_TR_becomeLike 13 = .ok (.getfield 18, 3) := by decide +kernel
theorem d_TR_becomeLike_16 : decode b_TR_becomeLike 16 = .ok (.putfield 18, 3) := by decide +kernel
theorem d_TR_becomeLike_19 : decode b_TR_becomeLike 19 = .ok (.aload_n 0, 1) := by decide +kernel
theorem d_TR_becomeLike_20 : decode b_TR_becomeLike 20 = .ok (.aload_n 1, 1) := by decide +kernel
theorem d_TR_becomeLike_21 : decode b_TR_becomeLike 21 = .ok (.getfield 22, 3) := by decide +kernel
theorem d_TR_becomeLike_24 : decode b_TR_becomeLike 24 = .ok (.putfield 22, 3) := by decide +kernel
theorem d_TR_becomeLike_27 : decode b_TR_becomeLike 27 = .ok (.aload_n 0, 1) := by decide +kernel
theorem d_TR_becomeLike_28 : decode b_TR_becomeLike 28 = .ok (.aload_n 1, 1) := by decide +kernel
theorem d_TR_becomeLike_29 : decode b_TR_becomeLike 29 = .ok (.getfield 25, 3) := by decide +kernel
theorem d_TR_becomeLike_32 : decode b_TR_becomeLike 32 = .ok (.putfield 25, 3) := by decide +kernel
theorem d_TR_becomeLike_35 : decode b_TR_becomeLike 35 = .ok (.aload_n 1, 1) := by decide +kernel
theorem d_TR_becomeLike_36 : decode b_TR_becomeLike 36 = .ok (.getfield 28, 3) := by decide +kernel
theorem d_TR_becomeLike_39 : decode b_TR_becomeLike 39 = .ok (.iconst 0, 1) := by decide +kernel
theorem d_TR_becomeLike_40 : decode b_TR_becomeLike 40 = .ok (.aload_n 0, 1) := by decide +kernel
theorem d_TR_becomeLike_41 : decode b_TR_becomeLike 41 = .ok (.getfield 28, 3) := by decide +kernel
theorem d_TR_becomeLike_44 : decode b_TR_becomeLike 44 = .ok (.iconst 0, 1) := by decide +kernel
theorem d_TR_becomeLike_45 : decode b_TR_becomeLike 45 = .ok (.aload_n 0, 1) := by decide +kernel
theorem d_TR_becomeLike_46 : decode b_TR_becomeLike 46 = .ok (.getfield 25, 3) := by decide +kernel
theorem d_TR_becomeLike_49 : decode b_TR_becomeLike 49 = .ok (.invokestatic 72, 3) := by decide +kernel
theorem d_TR_becomeLike_52 : decode b_TR_becomeLike 52 = .ok (.aload_n 1, 1) := by decide +kernel
theorem d_TR_becomeLike_53 : decode b_TR_becomeLike 53 = .ok (.getfield 32, 3) := by decide +kernel
theorem d_TR_becomeLike_56 : decode b_TR_becomeLike 56 = .ok (.iconst 0, 1) := by decide +kernel
theorem d_TR_becomeLike_57 : decode b_TR_becomeLike 57 = .ok (.aload_n 0, 1) := by decide +kernel
theorem d_TR_becomeLike_58 : decode b_TR_becomeLike 58 = .ok (.getfield 32, 3) := by decide +kernel
theorem d_TR_becomeLike_61 : decode b_TR_becomeLike 61 = .ok (.iconst 0, 1) := by decide +kernel
theorem d_TR_becomeLike_62 : decode b_TR_becomeLike 62 = .ok (.aload_n 0, 1) := by decide +kernel
theorem d_TR_becomeLike_63 : decode b_TR_becomeLike 63 = .ok (.getfield 25, 3) := by decide +kernel
theorem d_TR_becomeLike_66 : decode b_TR_becomeLike 66 = .ok (.invokestatic 72, 3) := by decide +kernel
theorem d_TR_becomeLike_69 : decode b_TR_becomeLike 69 = .ok (.aload_n 1, 1) := by decide +kernel
theorem d_TR_becomeLike_70 : decode b_TR_becomeLike 70 = .ok (.getfield 35, 3) := by decide +kernel
theorem d_TR_becomeLike_73 : decode b_TR_becomeLike 73 = .ok (.iconst 0, 1) := by decide +kernel
theorem d_TR_becomeLike_74 : decode b_TR_becomeLike 74 = .ok (.aload_n 0, 1) := by decide +kernel
theorem d_TR_becomeLike_75 : decode b_TR_becomeLike 75 = .ok (.getfield 35, 3) := by decide +kernel
theorem d_TR_becomeLike_78 : decode b_TR_becomeLike 78 = .ok (.iconst 0, 1) := by decide +kernel
theorem d_TR_becomeLike_79 : decode b_TR_becomeLike 79 = .ok (.aload_n 0, 1) := by decide +kernel
theorem d_TR_becomeLike_80 : decode b_TR_becomeLike 80 = .ok (.getfield 25, 3) := by decide +kernel
theorem d_TR_becomeLike_83 : decode b_TR_becomeLike 83 = .ok (.invokestatic 72, 3) := by decide +kernel
theorem d_TR_becomeLike_86 : decode b_TR_becomeLike 86 = .ok (.aload_n 1, 1) := by decide +kernel
theorem d_TR_becomeLike_87 : decode b_TR_becomeLike 87 = .ok (.getfield 38, 3) := by decide +kernel
theorem d_TR_becomeLike_90 : decode b_TR_becomeLike 90 = .ok (.iconst 0, 1) := by decide +kernel
theorem d_TR_becomeLike_91 : decode b_TR_becomeLike 91 = .ok (.aload_n 0, 1) := by decide +kernel
theorem d_TR_becomeLike_92 : decode b_TR_becomeLike 92 = .ok (.getfield 38, 3) := by decide +kernel
theorem d_TR_becomeLike_95 : decode b_TR_becomeLike 95 = .ok (.iconst 0, 1) := by decide +kernel
theorem d_TR_becomeLike_96 : decode b_TR_becomeLike 96 = .ok (.aload_n 0, 1) := by decide +kernel
theorem d_TR_becomeLike_97 : decode b_TR_becomeLike 97 = .ok (.getfield 25, 3) := by decide +kernel
theorem d_TR_becomeLike_100 : decode b_TR_becomeLike 100 = .ok (.invokestatic 72, 3) := by decide +kernel
theorem d_TR_becomeLike_103 : decode b_TR_becomeLike 103 = .ok (.return_, 1) := by decide +kernel
theorem d_TR_list_0 : decode b_TR_list 0 = .ok (.aload_n 0, 1) := by decide +kernel
theorem d_TR_list_1 : decode b_TR_list 1 = .ok (.iconst 0, 1) := by decide +kernel
theorem d_TR_list_2 : decode b_TR_list 2 = .ok (.putfield 18, 3) := by decide +kernel
theorem d_TR_list_5 : decode b_TR_list 5 = .ok (.aload_n 0, 1) := by decide +kernel
theorem d_TR_list_6 : decode b_TR_list 6 = .ok (.iconst 0, 1) := by decide +kernel
theorem d_TR_list_7 : decode b_TR_list 7 = .ok (.putfield 22, 3) := by decide +kernel
theorem d_TR_list_10 : decode b_TR_list 10 = .ok (.aload_n 0, 1) := by decide +kernel
theorem d_TR_list_11 : decode b_TR_list 11 = .ok (.iconst 0, 1) := by decide +kernel
theorem d_TR_list_12 : decode b_TR_list 12 = .ok (.putfield 25, 3) := by decide +kernel
theorem d_TR_list_15 : decode b_TR_list 15 = .ok (.aload_n 0, 1) := by decide +kernel
theorem d_TR_list_16 : decode b_TR_list 16 = .ok (.iconst 0, 1) := by decide +kernel
theorem d_TR_list_17 : decode b_TR_list 17 = .ok (.aload_n 0, 1) := by decide +kernel
theorem d_TR_list_18 : decode b_TR_list 18 = .ok (.getfield 12, 3) := by decide +kernel
theorem d_TR_list_21 : decode b_TR_list 21 = .ok (.getfield 78, 3) := by decide +kernel
theorem d_TR_list_24 : decode b_TR_list 24 = .ok (.iconst 0, 1) := by decide +kernel
theorem d_TR_list_25 : decode b_TR_list 25 = .ok (.iconst (-1), 1) := by decide +kernel
theorem d_TR_list_26 : decode b_TR_list 26 = .ok (.invokevirtual 81, 3) := by decide +kernel
theorem d_TR_list_29 : decode b_TR_list 29 = .ok (.return_, 1) := by decide +kernel
theorem d_TR_listPart_0 : decode b_TR_listPart 0 = .ok (.iload_n 1, 1) := by decide +kernel
theorem d_TR_listPart_1 : decode b_TR_listPart 1 = .ok (.iload_n 2, 1) := by decide +kernel
theorem d_TR_listPart_2 : decode b_TR_listPart 2 = .ok (.if_icmp .ne 4, 3) := by decide +kernel
theorem d_TR_listPart_5 : decode b_TR_listPart 5 = .ok (.return_, 1) := by decide +kernel
theorem d_TR_listPart_6 : decode b_TR_listPart 6 = .ok (.iload_n 2, 1) := by decide +kernel
theorem d_TR_listPart_7 : decode b_TR_listPart 7 = .ok (.iload_n 1, 1) := by decide +kernel
theorem d_TR_listPart_8 : decode b_TR_listPart 8 = .ok (.isub, 1) := by decide +kernel
theorem d_TR_listPart_9 : decode b_TR_listPart 9 = .ok (.iconst 1, 1) := by decide +kernel
theorem d_TR_listPart_10 : decode b_TR_listPart 10 = .ok (.if_icmp .ne 14, 3) := by decide +kernel
theorem d_TR_listPart_13 : decode b_TR_listPart 13 = .ok (.aload_n 0, 1) := by decide +kernel
theorem d_TR_listPart_14 : decode b_TR_listPart 14 = .ok (.dup, 1) := by decide +kernel
theorem d_TR_listPart_15 : decode b_TR_listPart 15 = .ok (.getfield 18, 3) := by decide +kernel
theorem d_TR_listPart_18 : decode b_TR_listPart 18 = .ok (.iconst 1, 1) := by decide +kernel
theorem d_TR_listPart_19 : decode b_TR_listPart 19 = .ok (.iadd, 1) := by decide +kernel
theorem d_TR_listPart_20 : decode b_TR_listPart 20 = .ok (.putfield 18, 3) := by decide +kernel
theorem d_TR_listPart_23 : decode b_TR_listPart 23 = .ok (.return_, 1) := by decide +kernel
theorem d_TR_listPart_24 : decode b_TR_listPart 24 = .ok (.aload_n 0, 1) := by decide +kernel
theorem d_TR_listPart_25 : decode b_TR_listPart 25 = .ok (.getfield 12, 3) := by decide +kernel
theorem d_TR_listPart_28 : decode b_TR_listPart 28 = .ok (.getfield 85, 3) := by decide +kernel
theorem d_TR_listPart_31 : decode b_TR_listPart 31 = .ok (.iload_n 1, 1) := by decide +kernel
theorem d_TR_listPart_32 : decode b_TR_listPart 32 = .ok (.iaload, 1) := by decide +kernel
theorem d_TR_listPart_33 : decode b_TR_listPart 33 = .ok (.aload_n 0, 1) := by decide +kernel
theorem d_TR_listPart_34 : decode b_TR_listPart 34 = .ok (.getfield 12, 3) := by decide +kernel
theorem d_TR_listPart_37 : decode b_TR_listPart 37 = .ok (.getfield 85, 3) := by decide +kernel
theorem d_TR_listPart_40 : decode b_TR_listPart 40 = .ok (.iload_n 2, 1) := by decide +kernel
theorem d_TR_listPart_41 : decode b_TR_listPart 41 = .ok (.iconst 1, 1) := by decide +kernel
theorem d_TR_listPart_42 : decode b_TR_listPart 42 = .ok (.isub, 1) := by decide +kernel
theorem d_TR_listPart_43 : decode b_TR_listPart 43 = .ok (.iaload, 1) := by decide +kernel
theorem d_TR_listPart_44 : decode b_TR_listPart 44 = .ok (.invokestatic 88, 3) := by decide +kernel
theorem d_TR_listPart_47 : decode b_TR_listPart 47 = .ok (.istore 5, 2) := by decide +kernel
theorem d_TR_listPart_49 : decode b_TR_listPart 49 = .ok (.iload 5, 2) := by decide +kernel
theorem d_TR_listPart_51 : decode b_TR_listPart 51 = .ok (.iload_n 3, 1) := by decide +kernel
theorem d_TR_listPart_52 : decode b_TR_listPart 52 = .ok (.if_icmp .le 13, 3) := by decide +kernel
theorem d_TR_listPart_55 : decode b_TR_listPart 55 = .ok (.aload_n 0, 1) := by decide +kernel
theorem d_TR_listPart_56 : decode b_TR_listPart 56 = .ok (.dup, 1) := by decide +kernel
theorem d_TR_listPart_57 : decode b_TR_listPart 57 = .ok (.getfield 22, 3) := by decide +kernel
theorem d_TR_listPart_60 : decode b_TR_listPart 60 = .ok (.iconst 1, 1) := by decide +kernel
theorem d_TR_listPart_61 : decode b_TR_listPart 61 = .ok (.iadd, 1) := by decide +kernel
theorem d_TR_listPart_62 : decode b_TR_listPart 62 = .ok (.putfield 22, 3) := by decide +kernel
theorem d_TR_listPart_65 : decode b_TR_listPart 65 = .ok (.aload_n 0, 1) := by decide +kernel
theorem d_TR_listPart_66 : decode b_TR_listPart 66 = .ok (.iload_n 1, 1) := by decide +kernel
theorem d_TR_listPart_67 : decode b_TR_listPart 67 = .ok (.iload_n 2, 1) := by decide +kernel
theorem d_TR_listPart_68 : decode b_TR_listPart 68 = .ok (.iload 5, 2) := by decide +kernel
theorem d_TR_listPart_70 : decode b_TR_listPart 70 = .ok (.iload 4, 2) := by decide +kernel
theorem d_TR_listPart_72 : decode b_TR_listPart 72 = .ok (.invokevirtual 94, 3) := by decide +kernel
theorem d_TR_listPart_75 : decode b_TR_listPart 75 = .ok (.return_, 1) := by decide +kernel
theorem d_TR_listBranch_0 : decode b_TR_listBranch 0 = .ok (.iload_n 3, 1) := by decide +kernel
theorem d_TR_listBranch_1 : decode b_TR_listBranch 1 = .ok (.iconst 4, 1) := by decide +kernel
theorem d_TR_listBranch_2 : decode b_TR_listBranch 2 = .ok (.if_icmp .ge 12, 3) := by decide +kernel
theorem d_TR_listBranch_5 : decode b_TR_listBranch 5 = .ok (.aload_n 0, 1) := by decide +kernel
theorem d_TR_listBranch_6 : decode b_TR_listBranch 6 = .ok (.getfield 25, 3) := by decide +kernel
theorem d_TR_listBranch_9 : decode b_TR_listBranch 9 = .ok (.bipush 15, 2) := by decide +kernel
theorem d_TR_listBranch_11 : decode b_TR_listBranch 11 = .ok (.if_icmp .ne 4, 3) := by decide +kernel
theorem d_TR_listBranch_14 : decode b_TR_listBranch 14 = .ok (.return_, 1) := by decide +kernel
theorem d_TR_listBranch_15 : decode b_TR_listBranch 15 = .ok (.aload_n 0, 1) := by decide +kernel
theorem d_TR_listBranch_16 : decode b_TR_listBranch 16 = .ok (.getfield 25, 3) := by decide +kernel
theorem d_TR_listBranch_19 : decode b_TR_listBranch 19 = .ok (.istore 5, 2) := by decide +kernel
theorem d_TR_listBranch_21 : decode b_TR_listBranch 21 = .ok (.aload_n 0, 1) := by decide +kernel
theorem d_TR_listBranch_22 : decode b_TR_listBranch 22 = .ok (.dup, 1) := by decide +kernel
theorem d_TR_listBranch_23 : decode b_TR_listBranch 23 = .ok (.getfield 25, 3) := by decide +kernel
theorem d_TR_listBranch_26 : decode b_TR_listBranch 26 = .ok (.iconst 1, 1) := by decide +kernel
theorem d_TR_listBranch_27 : decode b_TR_listBranch 27 = .ok (.iadd, 1) := by decide +kernel
theorem d_TR_listBranch_28 : decode b_TR_listBranch 28 = .ok (.putfield 25, 3) := by decide +kernel
theorem d_TR_listBranch_31 : decode b_TR_listBranch 31 = .ok (.aload_n 0, 1) := by decide +kernel
theorem d_TR_listBranch_32 : decode b_TR_listBranch 32 = .ok (.getfield 32, 3) := by decide +kernel
theorem d_TR_listBranch_35 : decode b_TR_listBranch 35 = .ok (.iload 5, 2) := by decide +kernel
theorem d_TR_listBranch_37 : decode b_TR_listBranch 37 = .ok (.iload_n 1, 1) := by decide +kernel
theorem d_TR_listBranch_38 : decode b_TR_listBranch 38 = .ok (.iastore, 1) := by decide +kernel
theorem d_TR_listBranch_39 : decode b_TR_listBranch 39 = .ok (.aload_n 0, 1) := by decide +kernel
theorem d_TR_listBranch_40 : decode b_TR_listBranch 40 = .ok (.getfield 35, 3) := by decide +kernel
theorem d_TR_listBranch_43 : decode b_TR_listBranch 43 = .ok (.iload 5, 2) := by decide +kernel
theorem d_TR_listBranch_45 : decode b_TR_listBranch 45 = .ok (.iload_n 2, 1) := by decide +kernel
theorem d_TR_listBranch_46 : decode b_TR_listBranch 46 = .ok (.iastore, 1) := by decide +kernel
theorem d_TR_listBranch_47 : decode b_TR_listBranch 47 = .ok (.aload_n 0, 1) := by decide +kernel
theorem d_TR_listBranch_48 : decode b_TR_listBranch 48 = .ok (.getfield 38, 3) := by decide +kernel
theorem d_TR_listBranch_51 : decode b_TR_listBranch 51 = .ok (.iload 5, 2) := by decide +kernel
theorem d_TR_listBranch_53 : decode b_TR_listBranch 53 = .ok (.iload_n 3, 1) := by decide +kernel
theorem d_TR_listBranch_54 : decode b_TR_listBranch 54 = .ok (.iastore, 1) := by decide +kernel
theorem d_TR_listBranch_55 : decode b_TR_listBranch 55 = .ok (.aload_n 0, 1) := by decide +kernel
theorem d_TR_listBranch_56 : decode b_TR_listBranch 56 = .ok (.getfield 28, 3) := by decide +kernel
theorem d_TR_listBranch_59 : decode b_TR_listBranch 59 = .ok (.iload 5, 2) := by decide +kernel
theorem d_TR_listBranch_61 : decode b_TR_listBranch 61 = .ok (.iload 4, 2) := by decide +kernel
theorem d_TR_listBranch_63 : decode b_TR_listBranch 63 = .ok (.iastore, 1) := by decide +kernel
theorem d_TR_listBranch_64 : decode b_TR_listBranch 64 = .ok (.aload_n 0, 1) := by decide +kernel
theorem d_TR_listBranch_65 : decode b_TR_listBranch 65 = .ok (.iload_n 1, 1) := by decide +kernel
theorem d_TR_listBranch_66 : decode b_TR_listBranch 66 = .ok (.iload_n 3, 1) := by decide +kernel
theorem d_TR_listBranch_67 : decode b_TR_listBranch 67 = .ok (.invokevirtual 97, 3) := by decide +kernel
theorem d_TR_listBranch_70 : decode b_TR_listBranch 70 = .ok (.istore 6, 2) := by decide +kernel
theorem d_TR_listBranch_72 : decode b_TR_listBranch 72 = .ok (.iconst 0, 1) := by decide +kernel
theorem d_TR_listBranch_73 : decode b_TR_listBranch 73 = .ok (.istore 7, 2) := by decide +kernel
theorem d_TR_listBranch_75 : decode b_TR_listBranch 75 = .ok (.iload 7, 2) := by decide +kernel
theorem d_TR_listBranch_77 : decode b_TR_listBranch 77 = .ok (.bipush 16, 2) := by decide +kernel
theorem d_TR_listBranch_79 : decode b_TR_listBranch 79 = .ok (.if_icmp .ge 41, 3) := by decide +kernel
theorem d_TR_listBranch_82 : decode b_TR_listBranch 82 = .ok (.iload 6, 2) := by decide +kernel
theorem d_TR_listBranch_84 : decode b_TR_listBranch 84 = .ok (.istore 8, 2) := by decide +kernel
theorem d_TR_listBranch_86 : decode b_TR_listBranch 86 = .ok (.aload_n 0, 1) := by decide +kernel
theorem d_TR_listBranch_87 : decode b_TR_listBranch 87 = .ok (.getfield 12, 3) := by decide +kernel
theorem d_TR_listBranch_90 : decode b_TR_listBranch 90 = .ok (.iload 8, 2) := by decide +kernel
theorem d_TR_listBranch_92 : decode b_TR_listBranch 92 = .ok (.iload_n 2, 1) := by decide +kernel
theorem d_TR_listBranch_93 : decode b_TR_listBranch 93 = .ok (.iload_n 3, 1) := by decide +kernel
theorem d_TR_listBranch_94 : decode b_TR_listBranch 94 = .ok (.iload 7, 2) := by decide +kernel
theorem d_TR_listBranch_96 : decode b_TR_listBranch 96 = .ok (.invokevirtual 100, 3) := by decide +kernel
theorem d_TR_listBranch_99 : decode b_TR_listBranch 99 = .ok (.istore 6, 2) := by decide +kernel
theorem d_TR_listBranch_101 : decode b_TR_listBranch 101 = .ok (.aload_n 0, 1) := by decide +kernel
theorem d_TR_listBranch_102 : decode b_TR_listBranch 102 = .ok (.iload 8, 2) := by decide +kernel
theorem d_TR_listBranch_104 : decode b_TR_listBranch 104 = .ok (.iload 6, 2) := by decide +kernel
theorem d_TR_listBranch_106 : decode b_TR_listBranch 106 = .ok (.iload_n 3, 1) := by decide +kernel
theorem d_TR_listBranch_107 : decode b_TR_listBranch 107 = .ok (.iconst 1, 1) := by decide +kernel
theorem d_TR_listBranch_108 : decode b_TR_listBranch 108 = .ok (.iadd, 1) := by decide +kernel
theorem d_TR_listBranch_109 : decode b_TR_listBranch 109 = .ok (.iload 5, 2) := by decide +kernel
theorem d_TR_listBranch_111 : decode b_TR_listBranch 111 = .ok (.invokevirtual 81, 3) := by decide +kernel
theorem d_TR_listBranch_114 : decode b_TR_listBranch 114 = .ok (.iinc 7 1, 3) := by decide +kernel
theorem d_TR_listBranch_117 : decode b_TR_listBranch 117 = .ok (.goto (-42), 3) := by decide +kernel
theorem d_TR_listBranch_120 : decode b_TR_listBranch 120 = .ok (.return_, 1) := by decide +kernel
theorem d_TR_firstChildRow_0 : decode b_TR_firstChildRow 0 = .ok (.aload_n 0, 1) := by decide +kernel
theorem d_TR_firstChildRow_1 : decode b_TR_firstChildRow 1 = .ok (.getfield 12, 3) := by decide +kernel
theorem d_TR_firstChildRow_4 : decode b_TR_firstChildRow 4 = .ok (.iload_n 1, 1) := by decide +kernel
theorem d_TR_firstChildRow_5 : decode b_TR_firstChildRow 5 = .ok (.iload_n 2, 1) := by decide +kernel
theorem d_TR_firstChildRow_6 : decode b_TR_firstChildRow 6 = .ok (.invokevirtual 104, 3) := by decide +kernel
theorem d_TR_firstChildRow_9 : decode b_TR_firstChildRow 9 = .ok (.ifCond .eq 9, 3) := by decide +kernel
theorem d_TR_firstChildRow_12 : decode b_TR_firstChildRow 12 = .ok (.iload_n 1, 1) := by decide +kernel
theorem d_TR_firstChildRow_13 : decode b_TR_firstChildRow 13 = .ok (.iconst 1, 1) := by decide +kernel
theorem d_TR_firstChildRow_14 : decode b_TR_firstChildRow 14 = .ok (.iadd, 1) := by decide +kernel
theorem d_TR_firstChildRow_15 : decode b_TR_firstChildRow 15 = .ok (.goto 4, 3) := by decide +kernel
theorem d_TR_firstChildRow_18 : decode b_TR_firstChildRow 18 = .ok (.iload_n 1, 1) := by decide +kernel
theorem d_TR_firstChildRow_19 : decode b_TR_firstChildRow 19 = .ok (.ireturn, 1) := by decide +kernel
theorem d_TR_rootNumber_0 : decode b_TR_rootNumber 0 = .ok (.aload_n 0, 1) := by decide +kernel
theorem d_TR_rootNumber_1 : decode b_TR_rootNumber 1 = .ok (.iconst 0, 1) := by decide +kernel
theorem d_TR_rootNumber_2 : decode b_TR_rootNumber 2 = .ok (.aload_n 0, 1) := by decide +kernel
theorem d_TR_rootNumber_3 : decode b_TR_rootNumber 3 = .ok (.getfield 12, 3) := by decide +kernel
theorem d_TR_rootNumber_6 : decode b_TR_rootNumber 6 = .ok (.getfield 78, 3) := by decide +kernel
theorem d_TR_rootNumber_9 : decode b_TR_rootNumber 9 = .ok (.iconst 0, 1) := by decide +kernel
theorem d_TR_rootNumber_10 : decode b_TR_rootNumber 10 = .ok (.aload_n 0, 1) := by decide +kernel
theorem d_TR_rootNumber_11 : decode b_TR_rootNumber 11 = .ok (.getfield 41, 3) := by decide +kernel
theorem d_TR_rootNumber_14 : decode b_TR_rootNumber 14 = .ok (.iconst 0, 1) := by decide +kernel
theorem d_TR_rootNumber_15 : decode b_TR_rootNumber 15 = .ok (.invokevirtual 108, 3) := by decide +kernel
theorem d_TR_rootNumber_18 : decode b_TR_rootNumber 18 = .ok (.istore_n 1, 1) := by decide +kernel
theorem d_TR_rootNumber_19 : decode b_TR_rootNumber 19 = .ok (.aload_n 0, 1) := by decide +kernel
theorem d_TR_rootNumber_20 : decode b_TR_rootNumber 20 = .ok (.getfield 41, 3) := by decide +kernel
theorem d_TR_rootNumber_23 : decode b_TR_rootNumber 23 = .ok (.iconst 0, 1) := by decide +kernel
theorem d_TR_rootNumber_24 : decode b_TR_rootNumber 24 = .ok (.iload_n 1, 1) := by decide +kernel
theorem d_TR_rootNumber_25 : decode b_TR_rootNumber 25 = .ok (.invokestatic 112, 3) := by decide +kernel
theorem d_TR_rootNumber_28 : decode b_TR_rootNumber 28 = .ok (.lreturn, 1) := by decide +kernel
theorem d_TR_digestOf_0 : decode b_TR_digestOf 0 = .ok (.aload_n 0, 1) := by decide +kernel
theorem d_TR_digestOf_1 : decode b_TR_digestOf 1 = .ok (.aload_n 0, 1) := by decide +kernel
theorem d_TR_digestOf_2 : decode b_TR_digestOf 2 = .ok (.getfield 32, 3) := by decide +kernel
theorem d_TR_digestOf_5 : decode b_TR_digestOf 5 = .ok (.iload_n 1, 1) := by decide +kernel
theorem d_TR_digestOf_6 : decode b_TR_digestOf 6 = .ok (.iaload, 1) := by decide +kernel
theorem d_TR_digestOf_7 : decode b_TR_digestOf 7 = .ok (.aload_n 0, 1) := by decide +kernel
theorem d_TR_digestOf_8 : decode b_TR_digestOf 8 = .ok (.getfield 35, 3) := by decide +kernel
theorem d_TR_digestOf_11 : decode b_TR_digestOf 11 = .ok (.iload_n 1, 1) := by decide +kernel
theorem d_TR_digestOf_12 : decode b_TR_digestOf 12 = .ok (.iaload, 1) := by decide +kernel
theorem d_TR_digestOf_13 : decode b_TR_digestOf 13 = .ok (.aload_n 0, 1) := by decide +kernel
theorem d_TR_digestOf_14 : decode b_TR_digestOf 14 = .ok (.getfield 38, 3) := by decide +kernel
theorem d_TR_digestOf_17 : decode b_TR_digestOf 17 = .ok (.iload_n 1, 1) := by decide +kernel
theorem d_TR_digestOf_18 : decode b_TR_digestOf 18 = .ok (.iaload, 1) := by decide +kernel
theorem d_TR_digestOf_19 : decode b_TR_digestOf 19 = .ok (.invokevirtual 116, 3) := by decide +kernel
theorem d_TR_digestOf_22 : decode b_TR_digestOf 22 = .ok (.lreturn, 1) := by decide +kernel
theorem d_TR_branchDigest_0 : decode b_TR_branchDigest 0 = .ok (.iload_n 3, 1) := by decide +kernel
theorem d_TR_branchDigest_1 : decode b_TR_branchDigest 1 = .ok (.iconst 4, 1) := by decide +kernel
theorem d_TR_branchDigest_2 : decode b_TR_branchDigest 2 = .ok (.if_icmp .lt 5, 3) := by decide +kernel
theorem d_TR_branchDigest_5 : decode b_TR_branchDigest 5 = .ok (.lconst 0, 1) := by decide +kernel
theorem d_TR_branchDigest_6 : decode b_TR_branchDigest 6 = .ok (.lreturn, 1) := by decide +kernel
theorem d_TR_branchDigest_7 : decode b_TR_branchDigest 7 = .ok (.aload_n 0, 1) := by decide +kernel
theorem d_TR_branchDigest_8 : decode b_TR_branchDigest 8 = .ok (.getfield 47, 3) := by decide +kernel
theorem d_TR_branchDigest_11 : decode b_TR_branchDigest 11 = .ok (.iload_n 3, 1) := by decide +kernel
theorem d_TR_branchDigest_12 : decode b_TR_branchDigest 12 = .ok (.aaload, 1) := by decide +kernel
theorem d_TR_branchDigest_13 : decode b_TR_branchDigest 13 = .ok (.astore 4, 2) := by decide +kernel
theorem d_TR_branchDigest_15 : decode b_TR_branchDigest 15 = .ok (.aload_n 0, 1) := by decide +kernel
theorem d_TR_branchDigest_16 : decode b_TR_branchDigest 16 = .ok (.iload_n 1, 1) := by decide +kernel
theorem d_TR_branchDigest_17 : decode b_TR_branchDigest 17 = .ok (.iload_n 2, 1) := by decide +kernel
theorem d_TR_branchDigest_18 : decode b_TR_branchDigest 18 = .ok (.iload_n 3, 1) := by decide +kernel
theorem d_TR_branchDigest_19 : decode b_TR_branchDigest 19 = .ok (.aload 4, 2) := by decide +kernel
theorem d_TR_branchDigest_21 : decode b_TR_branchDigest 21 = .ok (.iconst 0, 1) := by decide +kernel
theorem d_TR_branchDigest_22 : decode b_TR_branchDigest 22 = .ok (.invokevirtual 120, 3) := by decide +kernel
theorem d_TR_branchDigest_25 : decode b_TR_branchDigest 25 = .ok (.istore 5, 2) := by decide +kernel
theorem d_TR_branchDigest_27 : decode b_TR_branchDigest 27 = .ok (.aload 4, 2) := by decide +kernel
theorem d_TR_branchDigest_29 : decode b_TR_branchDigest 29 = .ok (.iconst 0, 1) := by decide +kernel
theorem d_TR_branchDigest_30 : decode b_TR_branchDigest 30 = .ok (.iload 5, 2) := by decide +kernel
theorem d_TR_branchDigest_32 : decode b_TR_branchDigest 32 = .ok (.invokestatic 112, 3) := by decide +kernel
theorem d_TR_branchDigest_35 : decode b_TR_branchDigest 35 = .ok (.lreturn, 1) := by decide +kernel
theorem d_TR_writeBranch_0 : decode b_TR_writeBranch 0 = .ok (.iload 5, 2) := by decide +kernel
theorem d_TR_writeBranch_2 : decode b_TR_writeBranch 2 = .ok (.istore 6, 2) := by decide +kernel
theorem d_TR_writeBranch_4 : decode b_TR_writeBranch 4 = .ok (.aload_n 0, 1) := by decide +kernel
theorem d_TR_writeBranch_5 : decode b_TR_writeBranch 5 = .ok (.iload_n 1, 1) := by decide +kernel
theorem d_TR_writeBranch_6 : decode b_TR_writeBranch 6 = .ok (.iload_n 3, 1) := by decide +kernel
theorem d_TR_writeBranch_7 : decode b_TR_writeBranch 7 = .ok (.invokevirtual 97, 3) := by decide +kernel
theorem d_TR_writeBranch_10 : decode b_TR_writeBranch 10 = .ok (.istore 7, 2) := by decide +kernel
theorem d_TR_writeBranch_12 : decode b_TR_writeBranch 12 = .ok (.iconst 0, 1) := by decide +kernel
theorem d_TR_writeBranch_13 : decode b_TR_writeBranch 13 = .ok (.istore 8, 2) := by decide +kernel
theorem d_TR_writeBranch_15 : decode b_TR_writeBranch 15 = .ok (.iload 8, 2) := by decide +kernel
theorem d_TR_writeBranch_17 : decode b_TR_writeBranch 17 = .ok (.bipush 16, 2) := by decide +kernel
theorem d_TR_writeBranch_19 : decode b_TR_writeBranch 19 = .ok (.if_icmp .ge 64, 3) := by decide +kernel
theorem d_TR_writeBranch_22 : decode b_TR_writeBranch 22 = .ok (.iload 7, 2) := by decide +kernel
theorem d_TR_writeBranch_24 : decode b_TR_writeBranch 24 = .ok (.istore 9, 2) := by decide +kernel
theorem d_TR_writeBranch_26 : decode b_TR_writeBranch 26 = .ok (.aload_n 0, 1) := by decide +kernel
theorem d_TR_writeBranch_27 : decode b_TR_writeBranch 27 = .ok (.getfield 12, 3) := by decide +kernel
theorem d_TR_writeBranch_30 : decode b_TR_writeBranch 30 = .ok (.iload 9, 2) := by decide +kernel
theorem d_TR_writeBranch_32 : decode b_TR_writeBranch 32 = .ok (.iload_n 2, 1) := by decide +kernel
theorem d_TR_writeBranch_33 : decode b_TR_writeBranch 33 = .ok (.iload_n 3, 1) := by decide +kernel
theorem d_TR_writeBranch_34 : decode b_TR_writeBranch 34 = .ok (.iload 8, 2) := by decide +kernel
theorem d_TR_writeBranch_36 : decode b_TR_writeBranch 36 = .ok (.invokevirtual 100, 3) := by decide +kernel
theorem d_TR_writeBranch_39 : decode b_TR_writeBranch 39 = .ok (.istore 7, 2) := by decide +kernel
theorem d_TR_writeBranch_41 : decode b_TR_writeBranch 41 = .ok (.aload_n 0, 1) := by decide +kernel
theorem d_TR_writeBranch_42 : decode b_TR_writeBranch 42 = .ok (.iload 9, 2) := by decide +kernel
theorem d_TR_writeBranch_44 : decode b_TR_writeBranch 44 = .ok (.iload 7, 2) := by decide +kernel
theorem d_TR_writeBranch_46 : decode b_TR_writeBranch 46 = .ok (.iload_n 3, 1) := by decide +kernel
theorem d_TR_writeBranch_47 : decode b_TR_writeBranch 47 = .ok (.iconst 1, 1) := by decide +kernel
theorem d_TR_writeBranch_48 : decode b_TR_writeBranch 48 = .ok (.iadd, 1) := by decide +kernel
theorem d_TR_writeBranch_49 : decode b_TR_writeBranch 49 = .ok (.aload 4, 2) := by decide +kernel
theorem d_TR_writeBranch_51 : decode b_TR_writeBranch 51 = .ok (.iload 6, 2) := by decide +kernel
theorem d_TR_writeBranch_53 : decode b_TR_writeBranch 53 = .ok (.iconst 1, 1) := by decide +kernel
theorem d_TR_writeBranch_54 : decode b_TR_writeBranch 54 = .ok (.iadd, 1) := by decide +kernel
theorem d_TR_writeBranch_55 : decode b_TR_writeBranch 55 = .ok (.invokevirtual 108, 3) := by decide +kernel
theorem d_TR_writeBranch_58 : decode b_TR_writeBranch 58 = .ok (.istore 10, 2) := by decide +kernel
theorem d_TR_writeBranch_60 : decode b_TR_writeBranch 60 = .ok (.aload 4, 2) := by decide +kernel
theorem d_TR_writeBranch_62 : decode b_TR_writeBranch 62 = .ok (.iload 6, 2) := by decide +kernel
theorem d_TR_writeBranch_64 : decode b_TR_writeBranch 64 = .ok (.iload 10, 2) := by decide +kernel
theorem d_TR_writeBranch_66 : decode b_TR_writeBranch 66 = .ok (.i2l, 1) := by decide +kernel
theorem d_TR_writeBranch_67 : decode b_TR_writeBranch 67 = .ok (.lastore, 1) := by decide +kernel
theorem d_TR_writeBranch_68 : decode b_TR_writeBranch 68 = .ok (.iload 6, 2) := by decide +kernel
theorem d_TR_writeBranch_70 : decode b_TR_writeBranch 70 = .ok (.iconst 1, 1) := by decide +kernel
theorem d_TR_writeBranch_71 : decode b_TR_writeBranch 71 = .ok (.iload 10, 2) := by decide +kernel
theorem d_TR_writeBranch_73 : decode b_TR_writeBranch 73 = .ok (.iadd, 1) := by decide +kernel
theorem d_TR_writeBranch_74 : decode b_TR_writeBranch 74 = .ok (.iadd, 1) := by decide +kernel
theorem d_TR_writeBranch_75 : decode b_TR_writeBranch 75 = .ok (.istore 6, 2) := by decide +kernel
theorem d_TR_writeBranch_77 : decode b_TR_writeBranch 77 = .ok (.iinc 8 1, 3) := by decide +kernel
theorem d_TR_writeBranch_80 : decode b_TR_writeBranch 80 = .ok (.goto (-65), 3) := by decide +kernel
theorem d_TR_writeBranch_83 : decode b_TR_writeBranch 83 = .ok (.aload 4, 2) := by decide +kernel
theorem d_TR_writeBranch_85 : decode b_TR_writeBranch 85 = .ok (.iload 6, 2) := by decide +kernel
theorem d_TR_writeBranch_87 : decode b_TR_writeBranch 87 = .ok (.aload_n 0, 1) := by decide +kernel
theorem d_TR_writeBranch_88 : decode b_TR_writeBranch 88 = .ok (.getfield 12, 3) := by decide +kernel
theorem d_TR_writeBranch_91 : decode b_TR_writeBranch 91 = .ok (.iload_n 1, 1) := by decide +kernel
theorem d_TR_writeBranch_92 : decode b_TR_writeBranch 92 = .ok (.iload_n 3, 1) := by decide +kernel
theorem d_TR_writeBranch_93 : decode b_TR_writeBranch 93 = .ok (.invokevirtual 104, 3) := by decide +kernel
theorem d_TR_writeBranch_96 : decode b_TR_writeBranch 96 = .ok (.ifCond .eq 16, 3) := by decide +kernel
theorem d_TR_writeBranch_99 : decode b_TR_writeBranch 99 = .ok (.aload_n 0, 1) := by decide +kernel
theorem d_TR_writeBranch_100 : decode b_TR_writeBranch 100 = .ok (.getfield 12, 3) := by decide +kernel
theorem d_TR_writeBranch_103 : decode b_TR_writeBranch 103 = .ok (.getfield 61, 3) := by decide +kernel
theorem d_TR_writeBranch_106 : decode b_TR_writeBranch 106 = .ok (.iload_n 1, 1) := by decide +kernel
theorem d_TR_writeBranch_107 : decode b_TR_writeBranch 107 = .ok (.iaload, 1) := by decide +kernel
theorem d_TR_writeBranch_108 : decode b_TR_writeBranch 108 = .ok (.i2l, 1) := by decide +kernel
theorem d_TR_writeBranch_109 : decode b_TR_writeBranch 109 = .ok (.goto 4, 3) := by decide +kernel
theorem d_TR_writeBranch_112 : decode b_TR_writeBranch 112 = .ok (.lconst 0, 1) := by decide +kernel
theorem d_TR_writeBranch_113 : decode b_TR_writeBranch 113 = .ok (.lastore, 1) := by decide +kernel
theorem d_TR_writeBranch_114 : decode b_TR_writeBranch 114 = .ok (.iload 6, 2) := by decide +kernel
theorem d_TR_writeBranch_116 : decode b_TR_writeBranch 116 = .ok (.iconst 1, 1) := by decide +kernel
theorem d_TR_writeBranch_117 : decode b_TR_writeBranch 117 = .ok (.iadd, 1) := by decide +kernel
theorem d_TR_writeBranch_118 : decode b_TR_writeBranch 118 = .ok (.iload 5, 2) := by decide +kernel
theorem d_TR_writeBranch_120 : decode b_TR_writeBranch 120 = .ok (.isub, 1) := by decide +kernel
theorem d_TR_writeBranch_121 : decode b_TR_writeBranch 121 = .ok (.ireturn, 1) := by decide +kernel
theorem d_TR_writeReference_0 : decode b_TR_writeReference 0 = .ok (.iload_n 1, 1) := by decide +kernel
theorem d_TR_writeReference_1 : decode b_TR_writeReference 1 = .ok (.iload_n 2, 1) := by decide +kernel
theorem d_TR_writeReference_2 : decode b_TR_writeReference 2 = .ok (.if_icmp .ne 5, 3) := by decide +kernel
theorem d_TR_writeReference_5 : decode b_TR_writeReference 5 = .ok (.iconst 0, 1) := by decide +kernel
theorem d_TR_writeReference_6 : decode b_TR_writeReference 6 = .ok (.ireturn, 1) := by decide +kernel
theorem d_TR_writeReference_7 : decode b_TR_writeReference 7 = .ok (.iload_n 2, 1) := by decide +kernel
theorem d_TR_writeReference_8 : decode b_TR_writeReference 8 = .ok (.iload_n 1, 1) := by decide +kernel
theorem d_TR_writeReference_9 : decode b_TR_writeReference 9 = .ok (.isub, 1) := by decide +kernel
theorem d_TR_writeReference_10 : decode b_TR_writeReference 10 = .ok (.iconst 1, 1) := by decide +kernel
theorem d_TR_writeReference_11 : decode b_TR_writeReference 11 = .ok (.if_icmp .ne 47, 3) := by decide +kernel
theorem d_TR_writeReference_14 : decode b_TR_writeReference 14 = .ok (.aload 4, 2) := by decide +kernel
theorem d_TR_writeReference_16 : decode b_TR_writeReference 16 = .ok (.iload 5, 2) := by decide +kernel
theorem d_TR_writeReference_18 : decode b_TR_writeReference 18 = .ok (.ldc2_w 123, 3) := by decide +kernel
theorem d_TR_writeReference_21 : decode b_TR_writeReference 21 = .ok (.aload_n 0, 1) := by decide +kernel
theorem d_TR_writeReference_22 : decode b_TR_writeReference 22 = .ok (.getfield 12, 3) := by decide +kernel
theorem d_TR_writeReference_25 : decode b_TR_writeReference 25 = .ok (.getfield 85, 3) := by decide +kernel
theorem d_TR_writeReference_28 : decode b_TR_writeReference 28 = .ok (.iload_n 1, 1) := by decide +kernel
theorem d_TR_writeReference_29 : decode b_TR_writeReference 29 = .ok (.iaload, 1) := by decide +kernel
theorem d_TR_writeReference_30 : decode b_TR_writeReference 30 = .ok (.iload_n 3, 1) := by decide +kernel
theorem d_TR_writeReference_31 : decode b_TR_writeReference 31 = .ok (.invokestatic 125, 3) := by decide +kernel
theorem d_TR_writeReference_34 : decode b_TR_writeReference 34 = .ok (.i2l, 1) := by decide +kernel
theorem d_TR_writeReference_35 : decode b_TR_writeReference 35 = .ok (.lmul, 1) := by decide +kernel
theorem d_TR_writeReference_36 : decode b_TR_writeReference 36 = .ok (.lconst 1, 1) := by decide +kernel
theorem d_TR_writeReference_37 : decode b_TR_writeReference 37 = .ok (.ladd, 1) := by decide +kernel
theorem d_TR_writeReference_38 : decode b_TR_writeReference 38 = .ok (.lastore, 1) := by decide +kernel
theorem d_TR_writeReference_39 : decode b_TR_writeReference 39 = .ok (.aload 4, 2) := by decide +kernel
theorem d_TR_writeReference_41 : decode b_TR_writeReference 41 = .ok (.iload 5, 2) := by decide +kernel
theorem d_TR_writeReference_43 : decode b_TR_writeReference 43 = .ok (.iconst 1, 1) := by decide +kernel
theorem d_TR_writeReference_44 : decode b_TR_writeReference 44 = .ok (.iadd, 1) := by decide +kernel
theorem d_TR_writeReference_45 : decode b_TR_writeReference 45 = .ok (.aload_n 0, 1) := by decide +kernel
theorem d_TR_writeReference_46 : decode b_TR_writeReference 46 = .ok (.getfield 12, 3) := by decide +kernel
theorem d_TR_writeReference_49 : decode b_TR_writeReference 49 = .ok (.getfield 61, 3) := by decide +kernel
theorem d_TR_writeReference_52 : decode b_TR_writeReference 52 = .ok (.iload_n 1, 1) := by decide +kernel
theorem d_TR_writeReference_53 : decode b_TR_writeReference 53 = .ok (.iaload, 1) := by decide +kernel
theorem d_TR_writeReference_54 : decode b_TR_writeReference 54 = .ok (.i2l, 1) := by decide +kernel
theorem d_TR_writeReference_55 : decode b_TR_writeReference 55 = .ok (.lastore, 1) := by decide +kernel
theorem d_TR_writeReference_56 : decode b_TR_writeReference 56 = .ok (.iconst 2, 1) := by decide +kernel
theorem d_TR_writeReference_57 : decode b_TR_writeReference 57 = .ok (.ireturn, 1) := by decide +kernel
theorem d_TR_writeReference_58 : decode b_TR_writeReference 58 = .ok (.aload_n 0, 1) := by decide +kernel
theorem d_TR_writeReference_59 : decode b_TR_writeReference 59 = .ok (.getfield 12, 3) := by decide +kernel
theorem d_TR_writeReference_62 : decode b_TR_writeReference 62 = .ok (.getfield 85, 3) := by decide +kernel
theorem d_TR_writeReference_65 : decode b_TR_writeReference 65 = .ok (.iload_n 1, 1) := by decide +kernel
theorem d_TR_writeReference_66 : decode b_TR_writeReference 66 = .ok (.iaload, 1) := by decide +kernel
theorem d_TR_writeReference_67 : decode b_TR_writeReference 67 = .ok (.aload_n 0, 1) := by decide +kernel
theorem d_TR_writeReference_68 : decode b_TR_writeReference 68 = .ok (.getfield 12, 3) := by decide +kernel
theorem d_TR_writeReference_71 : decode b_TR_writeReference 71 = .ok (.getfield 85, 3) := by decide +kernel
theorem d_TR_writeReference_74 : decode b_TR_writeReference 74 = .ok (.iload_n 2, 1) := by decide +kernel
theorem d_TR_writeReference_75 : decode b_TR_writeReference 75 = .ok (.iconst 1, 1) := by decide +kernel
theorem d_TR_writeReference_76 : decode b_TR_writeReference 76 = .ok (.isub, 1) := by decide +kernel
theorem d_TR_writeReference_77 : decode b_TR_writeReference 77 = .ok (.iaload, 1) := by decide +kernel
theorem d_TR_writeReference_78 : decode b_TR_writeReference 78 = .ok (.invokestatic 88, 3) := by decide +kernel
theorem d_TR_writeReference_81 : decode b_TR_writeReference 81 = .ok (.istore 6, 2) := by decide +kernel
theorem d_TR_writeReference_83 : decode b_TR_writeReference 83 = .ok (.aload_n 0, 1) := by decide +kernel
theorem d_TR_writeReference_84 : decode b_TR_writeReference 84 = .ok (.iload_n 1, 1) := by decide +kernel
theorem d_TR_writeReference_85 : decode b_TR_writeReference 85 = .ok (.iload_n 2, 1) := by decide +kernel
theorem d_TR_writeReference_86 : decode b_TR_writeReference 86 = .ok (.iload 6, 2) := by decide +kernel
theorem d_TR_writeReference_88 : decode b_TR_writeReference 88 = .ok (.invokevirtual 116, 3) := by decide +kernel
theorem d_TR_writeReference_91 : decode b_TR_writeReference 91 = .ok (.lstore 7, 2) := by decide +kernel
theorem d_TR_writeReference_93 : decode b_TR_writeReference 93 = .ok (.iload 6, 2) := by decide +kernel
theorem d_TR_writeReference_95 : decode b_TR_writeReference 95 = .ok (.iload_n 3, 1) := by decide +kernel
theorem d_TR_writeReference_96 : decode b_TR_writeReference 96 = .ok (.if_icmp .ne 12, 3) := by decide +kernel
theorem d_TR_writeReference_99 : decode b_TR_writeReference 99 = .ok (.aload 4, 2) := by decide +kernel
theorem d_TR_writeReference_101 : decode b_TR_writeReference 101 = .ok (.iload 5, 2) := by decide +kernel
theorem d_TR_writeReference_103 : decode b_TR_writeReference 103 = .ok (.lload 7, 2) := by decide +kernel
theorem d_TR_writeReference_105 : decode b_TR_writeReference 105 = .ok (.lastore, 1) := by decide +kernel
theorem d_TR_writeReference_106 : decode b_TR_writeReference 106 = .ok (.iconst 1, 1) := by decide +kernel
theorem d_TR_writeReference_107 : decode b_TR_writeReference 107 = .ok (.ireturn, 1) := by decide +kernel
theorem d_TR_writeReference_108 : decode b_TR_writeReference 108 = .ok (.aload 4, 2) := by decide +kernel
theorem d_TR_writeReference_110 : decode b_TR_writeReference 110 = .ok (.iload 5, 2) := by decide +kernel
theorem d_TR_writeReference_112 : decode b_TR_writeReference 112 = .ok (.ldc2_w 123, 3) := by decide +kernel
theorem d_TR_writeReference_115 : decode b_TR_writeReference 115 = .ok (.aload_n 0, 1) := by decide +kernel
theorem d_TR_writeReference_116 : decode b_TR_writeReference 116 = .ok (.getfield 12, 3) := by decide +kernel
theorem d_TR_writeReference_119 : decode b_TR_writeReference 119 = .ok (.getfield 85, 3) := by decide +kernel
theorem d_TR_writeReference_122 : decode b_TR_writeReference 122 = .ok (.iload_n 1, 1) := by decide +kernel
theorem d_TR_writeReference_123 : decode b_TR_writeReference 123 = .ok (.iaload, 1) := by decide +kernel
theorem d_TR_writeReference_124 : decode b_TR_writeReference 124 = .ok (.iload 6, 2) := by decide +kernel
theorem d_TR_writeReference_126 : decode b_TR_writeReference 126 = .ok (.invokestatic 128, 3) := by decide +kernel
theorem d_TR_writeReference_129 : decode b_TR_writeReference 129 = .ok (.iload_n 3, 1) := by decide +kernel
theorem d_TR_writeReference_130 : decode b_TR_writeReference 130 = .ok (.invokestatic 125, 3) := by decide +kernel
theorem d_TR_writeReference_133 : decode b_TR_writeReference 133 = .ok (.i2l, 1) := by decide +kernel
theorem d_TR_writeReference_134 : decode b_TR_writeReference 134 = .ok (.lmul, 1) := by decide +kernel
theorem d_TR_writeReference_135 : decode b_TR_writeReference 135 = .ok (.lastore, 1) := by decide +kernel
theorem d_TR_writeReference_136 : decode b_TR_writeReference 136 = .ok (.aload 4, 2) := by decide +kernel
theorem d_TR_writeReference_138 : decode b_TR_writeReference 138 = .ok (.iload 5, 2) := by decide +kernel
theorem d_TR_writeReference_140 : decode b_TR_writeReference 140 = .ok (.iconst 1, 1) := by decide +kernel
theorem d_TR_writeReference_141 : decode b_TR_writeReference 141 = .ok (.iadd, 1) := by decide +kernel
theorem d_TR_writeReference_142 : decode b_TR_writeReference 142 = .ok (.lload 7, 2) := by decide +kernel
theorem d_TR_writeReference_144 : decode b_TR_writeReference 144 = .ok (.lastore, 1) := by decide +kernel
theorem d_TR_writeReference_145 : decode b_TR_writeReference 145 = .ok (.iconst 2, 1) := by decide +kernel
theorem d_TR_writeReference_146 : decode b_TR_writeReference 146 = .ok (.ireturn, 1) := by decide +kernel
theorem d_TR_writeProof_0 : decode b_TR_writeProof 0 = .ok (.aload_n 0, 1) := by decide +kernel
theorem d_TR_writeProof_1 : decode b_TR_writeProof 1 = .ok (.iconst 0, 1) := by decide +kernel
theorem d_TR_writeProof_2 : decode b_TR_writeProof 2 = .ok (.aload_n 0, 1) := by decide +kernel
theorem d_TR_writeProof_3 : decode b_TR_writeProof 3 = .ok (.getfield 12, 3) := by decide +kernel
theorem d_TR_writeProof_6 : decode b_TR_writeProof 6 = .ok (.getfield 78, 3) := by decide +kernel
theorem d_TR_writeProof_9 : decode b_TR_writeProof 9 = .ok (.iconst 0, 1) := by decide +kernel
theorem d_TR_writeProof_10 : decode b_TR_writeProof 10 = .ok (.aload_n 2, 1) := by decide +kernel
theorem d_TR_writeProof_11 : decode b_TR_writeProof 11 = .ok (.iconst 1, 1) := by decide +kernel
theorem d_TR_writeProof_12 : decode b_TR_writeProof 12 = .ok (.invokevirtual 108, 3) := by decide +kernel
theorem d_TR_writeProof_15 : decode b_TR_writeProof 15 = .ok (.istore_n 3, 1) := by decide +kernel
theorem d_TR_writeProof_16 : decode b_TR_writeProof 16 = .ok (.aload_n 2, 1) := by decide +kernel
theorem d_TR_writeProof_17 : decode b_TR_writeProof 17 = .ok (.iconst 0, 1) := by decide +kernel
theorem d_TR_writeProof_18 : decode b_TR_writeProof 18 = .ok (.iload_n 3, 1) := by decide +kernel
theorem d_TR_writeProof_19 : decode b_TR_writeProof 19 = .ok (.i2l, 1) := by decide +kernel
theorem d_TR_writeProof_20 : decode b_TR_writeProof 20 = .ok (.lastore, 1) := by decide +kernel
theorem d_TR_writeProof_21 : decode b_TR_writeProof 21 = .ok (.iconst 1, 1) := by decide +kernel
theorem d_TR_writeProof_22 : decode b_TR_writeProof 22 = .ok (.iload_n 3, 1) := by decide +kernel
theorem d_TR_writeProof_23 : decode b_TR_writeProof 23 = .ok (.iadd, 1) := by decide +kernel
theorem d_TR_writeProof_24 : decode b_TR_writeProof 24 = .ok (.istore 4, 2) := by decide +kernel
theorem d_TR_writeProof_26 : decode b_TR_writeProof 26 = .ok (.iconst 0, 1) := by decide +kernel
theorem d_TR_writeProof_27 : decode b_TR_writeProof 27 = .ok (.istore 5, 2) := by decide +kernel
theorem d_TR_writeProof_29 : decode b_TR_writeProof 29 = .ok (.iload 5, 2) := by decide +kernel
theorem d_TR_writeProof_31 : decode b_TR_writeProof 31 = .ok (.aload_n 0, 1) := by decide +kernel
theorem d_TR_writeProof_32 : decode b_TR_writeProof 32 = .ok (.getfield 25, 3) := by decide +kernel
theorem d_TR_writeProof_35 : decode b_TR_writeProof 35 = .ok (.if_icmp .ge 55, 3) := by decide +kernel
theorem d_TR_writeProof_38 : decode b_TR_writeProof 38 = .ok (.iload_n 1, 1) := by decide +kernel
theorem d_TR_writeProof_39 : decode b_TR_writeProof 39 = .ok (.aload_n 0, 1) := by decide +kernel
theorem d_TR_writeProof_40 : decode b_TR_writeProof 40 = .ok (.iload 5, 2) := by decide +kernel
theorem d_TR_writeProof_42 : decode b_TR_writeProof 42 = .ok (.invokevirtual 131, 3) := by decide +kernel
theorem d_TR_writeProof_45 : decode b_TR_writeProof 45 = .ok (.invokestatic 134, 3) := by decide +kernel
theorem d_TR_writeProof_48 : decode b_TR_writeProof 48 = .ok (.ifCond .eq 36, 3) := by decide +kernel
theorem d_TR_writeProof_51 : decode b_TR_writeProof 51 = .ok (.iload 4, 2) := by decide +kernel
theorem d_TR_writeProof_53 : decode b_TR_writeProof 53 = .ok (.aload_n 0, 1) := by decide +kernel
theorem d_TR_writeProof_54 : decode b_TR_writeProof 54 = .ok (.aload_n 0, 1) := by decide +kernel
theorem d_TR_writeProof_55 : decode b_TR_writeProof 55 = .ok (.getfield 32, 3) := by decide +kernel
theorem d_TR_writeProof_58 : decode b_TR_writeProof 58 = .ok (.iload 5, 2) := by decide +kernel
theorem d_TR_writeProof_60 : decode b_TR_writeProof 60 = .ok (.iaload, 1) := by decide +kernel
theorem d_TR_writeProof_61 : decode b_TR_writeProof 61 = .ok (.aload_n 0, 1) := by decide +kernel
theorem d_TR_writeProof_62 : decode b_TR_writeProof 62 = .ok (.getfield 35, 3) := by decide +kernel
theorem d_TR_writeProof_65 : decode b_TR_writeProof 65 = .ok (.iload 5, 2) := by decide +kernel
theorem d_TR_writeProof_67 : decode b_TR_writeProof 67 = .ok (.iaload, 1) := by decide +kernel
theorem d_TR_writeProof_68 : decode b_TR_writeProof 68 = .ok (.aload_n 0, 1) := by decide +kernel
theorem d_TR_writeProof_69 : decode b_TR_writeProof 69 = .ok (.getfield 38, 3) := by decide +kernel
theorem d_TR_writeProof_72 : decode b_TR_writeProof 72 = .ok (.iload 5, 2) := by decide +kernel
theorem d_TR_writeProof_74 : decode b_TR_writeProof 74 = .ok (.iaload, 1) := by decide +kernel
theorem d_TR_writeProof_75 : decode b_TR_writeProof 75 = .ok (.aload_n 2, 1) := by decide +kernel
theorem d_TR_writeProof_76 : decode b_TR_writeProof 76 = .ok (.iload 4, 2) := by decide +kernel
theorem d_TR_writeProof_78 : decode b_TR_writeProof 78 = .ok (.invokevirtual 120, 3) := by decide +kernel
theorem d_TR_writeProof_81 : decode b_TR_writeProof 81 = .ok (.iadd, 1) := by decide +kernel
theorem d_TR_writeProof_82 : decode b_TR_writeProof 82 = .ok (.istore 4, 2) := by decide +kernel
theorem d_TR_writeProof_84 : decode b_TR_writeProof 84 = .ok (.iinc 5 1, 3) := by decide +kernel
theorem d_TR_writeProof_87 : decode b_TR_writeProof 87 = .ok (.goto (-58), 3) := by decide +kernel
theorem d_TR_writeProof_90 : decode b_TR_writeProof 90 = .ok (.iload 4, 2) := by decide +kernel
theorem d_TR_writeProof_92 : decode b_TR_writeProof 92 = .ok (.ireturn, 1) := by decide +kernel
theorem d_TR_pathTo_0 : decode b_TR_pathTo 0 = .ok (.aload_n 0, 1) := by decide +kernel
theorem d_TR_pathTo_1 : decode b_TR_pathTo 1 = .ok (.getfield 12, 3) := by decide +kernel
theorem d_TR_pathTo_4 : decode b_TR_pathTo 4 = .ok (.getfield 85, 3) := by decide +kernel
theorem d_TR_pathTo_7 : decode b_TR_pathTo 7 = .ok (.aload_n 0, 1) := by decide +kernel
theorem d_TR_pathTo_8 : decode b_TR_pathTo 8 = .ok (.getfield 32, 3) := by decide +kernel
theorem d_TR_pathTo_11 : decode b_TR_pathTo 11 = .ok (.iload_n 1, 1) := by decide +kernel
theorem d_TR_pathTo_12 : decode b_TR_pathTo 12 = .ok (.iaload, 1) := by decide +kernel
theorem d_TR_pathTo_13 : decode b_TR_pathTo 13 = .ok (.iaload, 1) := by decide +kernel
theorem d_TR_pathTo_14 : decode b_TR_pathTo 14 = .ok (.aload_n 0, 1) := by decide +kernel
theorem d_TR_pathTo_15 : decode b_TR_pathTo 15 = .ok (.getfield 38, 3) := by decide +kernel
theorem d_TR_pathTo_18 : decode b_TR_pathTo 18 = .ok (.iload_n 1, 1) := by decide +kernel
theorem d_TR_pathTo_19 : decode b_TR_pathTo 19 = .ok (.iaload, 1) := by decide +kernel
theorem d_TR_pathTo_20 : decode b_TR_pathTo 20 = .ok (.invokestatic 128, 3) := by decide +kernel
theorem d_TR_pathTo_23 : decode b_TR_pathTo 23 = .ok (.ireturn, 1) := by decide +kernel
theorem d_TR_hasAmongFirst_0 : decode b_TR_hasAmongFirst 0 = .ok (.iconst 0, 1) := by decide +kernel
theorem d_TR_hasAmongFirst_1 : decode b_TR_hasAmongFirst 1 = .ok (.istore 4, 2) := by decide +kernel
theorem d_TR_hasAmongFirst_3 : decode b_TR_hasAmongFirst 3 = .ok (.iload 4, 2) := by decide +kernel
theorem d_TR_hasAmongFirst_5 : decode b_TR_hasAmongFirst 5 = .ok (.iload_n 1, 1) := by decide +kernel
theorem d_TR_hasAmongFirst_6 : decode b_TR_hasAmongFirst 6 = .ok (.if_icmp .ge 22, 3) := by decide +kernel
theorem d_TR_hasAmongFirst_9 : decode b_TR_hasAmongFirst 9 = .ok (.aload_n 0, 1) := by decide +kernel
theorem d_TR_hasAmongFirst_10 : decode b_TR_hasAmongFirst 10 = .ok (.iload 4, 2) := by decide +kernel
theorem d_TR_hasAmongFirst_12 : decode b_TR_hasAmongFirst 12 = .ok (.aload_n 2, 1) := by decide +kernel
theorem d_TR_hasAmongFirst_13 : decode b_TR_hasAmongFirst 13 = .ok (.iload_n 3, 1) := by decide +kernel
theorem d_TR_hasAmongFirst_14 : decode b_TR_hasAmongFirst 14 = .ok (.invokevirtual 137, 3) := by decide +kernel
theorem d_TR_hasAmongFirst_17 : decode b_TR_hasAmongFirst 17 = .ok (.ifCond .eq 5, 3) := by decide +kernel
theorem d_TR_hasAmongFirst_20 : decode b_TR_hasAmongFirst 20 = .ok (.iconst 1, 1) := by decide +kernel
theorem d_TR_hasAmongFirst_21 : decode b_TR_hasAmongFirst 21 = .ok (.ireturn, 1) := by decide +kernel
theorem d_TR_hasAmongFirst_22 : decode b_TR_hasAmongFirst 22 = .ok (.iinc 4 1, 3) := by decide +kernel
theorem d_TR_hasAmongFirst_25 : decode b_TR_hasAmongFirst 25 = .ok (.goto (-22), 3) := by decide +kernel
theorem d_TR_hasAmongFirst_28 : decode b_TR_hasAmongFirst 28 = .ok (.iconst 0, 1) := by decide +kernel
theorem d_TR_hasAmongFirst_29 : decode b_TR_hasAmongFirst 29 = .ok (.ireturn, 1) := by decide +kernel
theorem d_TR_isSame_0 : decode b_TR_isSame 0 = .ok (.aload_n 0, 1) := by decide +kernel
theorem d_TR_isSame_1 : decode b_TR_isSame 1 = .ok (.getfield 35, 3) := by decide +kernel
theorem d_TR_isSame_4 : decode b_TR_isSame 4 = .ok (.iload_n 1, 1) := by decide +kernel
theorem d_TR_isSame_5 : decode b_TR_isSame 5 = .ok (.iaload, 1) := by decide +kernel
theorem d_TR_isSame_6 : decode b_TR_isSame 6 = .ok (.aload_n 0, 1) := by decide +kernel
theorem d_TR_isSame_7 : decode b_TR_isSame 7 = .ok (.getfield 32, 3) := by decide +kernel
theorem d_TR_isSame_10 : decode b_TR_isSame 10 = .ok (.iload_n 1, 1) := by decide +kernel
theorem d_TR_isSame_11 : decode b_TR_isSame 11 = .ok (.iaload, 1) := by decide +kernel
theorem d_TR_isSame_12 : decode b_TR_isSame 12 = .ok (.isub, 1) := by decide +kernel
theorem d_TR_isSame_13 : decode b_TR_isSame 13 = .ok (.istore 4, 2) := by decide +kernel
theorem d_TR_isSame_15 : decode b_TR_isSame 15 = .ok (.iload 4, 2) := by decide +kernel
theorem d_TR_isSame_17 : decode b_TR_isSame 17 = .ok (.aload_n 2, 1) := by decide +kernel
theorem d_TR_isSame_18 : decode b_TR_isSame 18 = .ok (.getfield 35, 3) := by decide +kernel
theorem d_TR_isSame_21 : decode b_TR_isSame 21 = .ok (.iload_n 3, 1) := by decide +kernel
theorem d_TR_isSame_22 : decode b_TR_isSame 22 = .ok (.iaload, 1) := by decide +kernel
theorem d_TR_isSame_23 : decode b_TR_isSame 23 = .ok (.aload_n 2, 1) := by decide +kernel
theorem d_TR_isSame_24 : decode b_TR_isSame 24 = .ok (.getfield 32, 3) := by decide +kernel
theorem d_TR_isSame_27 : decode b_TR_isSame 27 = .ok (.iload_n 3, 1) := by decide +kernel
theorem d_TR_isSame_28 : decode b_TR_isSame 28 = .ok (.iaload, 1) := by decide +kernel
theorem d_TR_isSame_29 : decode b_TR_isSame 29 = .ok (.isub, 1) := by decide +kernel
theorem d_TR_isSame_30 : decode b_TR_isSame 30 = .ok (.if_icmp .eq 5, 3) := by decide +kernel
theorem d_TR_isSame_33 : decode b_TR_isSame 33 = .ok (.iconst 0, 1) := by decide +kernel
theorem d_TR_isSame_34 : decode b_TR_isSame 34 = .ok (.ireturn, 1) := by decide +kernel
theorem d_TR_isSame_35 : decode b_TR_isSame 35 = .ok (.iconst 0, 1) := by decide +kernel
theorem d_TR_isSame_36 : decode b_TR_isSame 36 = .ok (.istore 5, 2) := by decide +kernel
theorem d_TR_isSame_38 : decode b_TR_isSame 38 = .ok (.iload 5, 2) := by decide +kernel
theorem d_TR_isSame_40 : decode b_TR_isSame 40 = .ok (.iload 4, 2) := by decide +kernel
theorem d_TR_isSame_42 : decode b_TR_isSame 42 = .ok (.if_icmp .ge 105, 3) := by decide +kernel
theorem d_TR_isSame_45 : decode b_TR_isSame 45 = .ok (.aload_n 0, 1) := by decide +kernel
theorem d_TR_isSame_46 : decode b_TR_isSame 46 = .ok (.getfield 32, 3) := by decide +kernel
theorem d_TR_isSame_49 : decode b_TR_isSame 49 = .ok (.iload_n 1, 1) := by decide +kernel
theorem d_TR_isSame_50 : decode b_TR_isSame 50 = .ok (.iaload, 1) := by decide +kernel
theorem d_TR_isSame_51 : decode b_TR_isSame 51 = .ok (.iload 5, 2) := by decide +kernel
theorem d_TR_isSame_53 : decode b_TR_isSame 53 = .ok (.iadd, 1) := by decide +kernel
theorem d_TR_isSame_54 : decode b_TR_isSame 54 = .ok (.istore 6, 2) := by decide +kernel
theorem d_TR_isSame_56 : decode b_TR_isSame 56 = .ok (.aload_n 2, 1) := by decide +kernel
theorem d_TR_isSame_57 : decode b_TR_isSame 57 = .ok (.getfield 32, 3) := by decide +kernel
theorem d_TR_isSame_60 : decode b_TR_isSame 60 = .ok (.iload_n 3, 1) := by decide +kernel
theorem d_TR_isSame_61 : decode b_TR_isSame 61 = .ok (.iaload, 1) := by decide +kernel
theorem d_TR_isSame_62 : decode b_TR_isSame 62 = .ok (.iload 5, 2) := by decide +kernel
theorem d_TR_isSame_64 : decode b_TR_isSame 64 = .ok (.iadd, 1) := by decide +kernel
theorem d_TR_isSame_65 : decode b_TR_isSame 65 = .ok (.istore 7, 2) := by decide +kernel
theorem d_TR_isSame_67 : decode b_TR_isSame 67 = .ok (.aload_n 0, 1) := by decide +kernel
theorem d_TR_isSame_68 : decode b_TR_isSame 68 = .ok (.getfield 12, 3) := by decide +kernel
theorem d_TR_isSame_71 : decode b_TR_isSame 71 = .ok (.getfield 85, 3) := by decide +kernel
theorem d_TR_isSame_74 : decode b_TR_isSame 74 = .ok (.iload 6, 2) := by decide +kernel
theorem d_TR_isSame_76 : decode b_TR_isSame 76 = .ok (.iaload, 1) := by decide +kernel
theorem d_TR_isSame_77 : decode b_TR_isSame 77 = .ok (.aload_n 0, 1) := by decide +kernel
theorem d_TR_isSame_78 : decode b_TR_isSame 78 = .ok (.getfield 38, 3) := by decide +kernel
theorem d_TR_isSame_81 : decode b_TR_isSame 81 = .ok (.iload_n 1, 1) := by decide +kernel
theorem d_TR_isSame_82 : decode b_TR_isSame 82 = .ok (.iaload, 1) := by decide +kernel
theorem d_TR_isSame_83 : decode b_TR_isSame 83 = .ok (.invokestatic 125, 3) := by decide +kernel
theorem d_TR_isSame_86 : decode b_TR_isSame 86 = .ok (.istore 8, 2) := by decide +kernel
theorem d_TR_isSame_88 : decode b_TR_isSame 88 = .ok (.aload_n 2, 1) := by decide +kernel
theorem d_TR_isSame_89 : decode b_TR_isSame 89 = .ok (.getfield 12, 3) := by decide +kernel
theorem d_TR_isSame_92 : decode b_TR_isSame 92 = .ok (.getfield 85, 3) := by decide +kernel
theorem d_TR_isSame_95 : decode b_TR_isSame 95 = .ok (.iload 7, 2) := by decide +kernel
theorem d_TR_isSame_97 : decode b_TR_isSame 97 = .ok (.iaload, 1) := by decide +kernel
theorem d_TR_isSame_98 : decode b_TR_isSame 98 = .ok (.aload_n 2, 1) := by decide +kernel
theorem d_TR_isSame_99 : decode b_TR_isSame 99 = .ok (.getfield 38, 3) := by decide +kernel
theorem d_TR_isSame_102 : decode b_TR_isSame 102 = .ok (.iload_n 3, 1) := by decide +kernel
theorem d_TR_isSame_103 : decode b_TR_isSame 103 = .ok (.iaload, 1) := by decide +kernel
theorem d_TR_isSame_104 : decode b_TR_isSame 104 = .ok (.invokestatic 125, 3) := by decide +kernel
theorem d_TR_isSame_107 : decode b_TR_isSame 107 = .ok (.istore 9, 2) := by decide +kernel
theorem d_TR_isSame_109 : decode b_TR_isSame 109 = .ok (.iload 8, 2) := by decide +kernel
theorem d_TR_isSame_111 : decode b_TR_isSame 111 = .ok (.iload 9, 2) := by decide +kernel
theorem d_TR_isSame_113 : decode b_TR_isSame 113 = .ok (.if_icmp .ne 26, 3) := by decide +kernel
theorem d_TR_isSame_116 : decode b_TR_isSame 116 = .ok (.aload_n 0, 1) := by decide +kernel
theorem d_TR_isSame_117 : decode b_TR_isSame 117 = .ok (.getfield 12, 3) := by decide +kernel
theorem d_TR_isSame_120 : decode b_TR_isSame 120 = .ok (.getfield 61, 3) := by decide +kernel
theorem d_TR_isSame_123 : decode b_TR_isSame 123 = .ok (.iload 6, 2) := by decide +kernel
theorem d_TR_isSame_125 : decode b_TR_isSame 125 = .ok (.iaload, 1) := by decide +kernel
theorem d_TR_isSame_126 : decode b_TR_isSame 126 = .ok (.aload_n 2, 1) := by decide +kernel
theorem d_TR_isSame_127 : decode b_TR_isSame 127 = .ok (.getfield 12, 3) := by decide +kernel
theorem d_TR_isSame_130 : decode b_TR_isSame 130 = .ok (.getfield 61, 3) := by decide +kernel
theorem d_TR_isSame_133 : decode b_TR_isSame 133 = .ok (.iload 7, 2) := by decide +kernel
theorem d_TR_isSame_135 : decode b_TR_isSame 135 = .ok (.iaload, 1) := by decide +kernel
theorem d_TR_isSame_136 : decode b_TR_isSame 136 = .ok (.if_icmp .eq 5, 3) := by decide +kernel
theorem d_TR_isSame_139 : decode b_TR_isSame 139 = .ok (.iconst 0, 1) := by decide +kernel
theorem d_TR_isSame_140 : decode b_TR_isSame 140 = .ok (.ireturn, 1) := by decide +kernel
theorem d_TR_isSame_141 : decode b_TR_isSame 141 = .ok (.iinc 5 1, 3) := by decide +kernel
theorem d_TR_isSame_144 : decode b_TR_isSame 144 = .ok (.goto (-106), 3) := by decide +kernel
theorem d_TR_isSame_147 : decode b_TR_isSame 147 = .ok (.iconst 1, 1) := by decide +kernel
theorem d_TR_isSame_148 : decode b_TR_isSame 148 = .ok (.ireturn, 1) := by decide +kernel
end
section
/-! pure functions, one a method, by program out of the bytecode -/
def f_PA_isNumber (v0 : Int64) : Int32 := if (lg_cmp v0 1) = 0 then (1) else (if (lg_cmp v0 16) < 0 then (if (lg_cmp v0 256) < 0 then (if (lg_cmp v0 4096) < 0 then (if (lg_cmp v0 65536) < 0 then (0) else (if 0 < (lg_cmp v0 131071) then (0) else (1))) else (if (lg_cmp v0 8191) ≤ 0 then (1) else (if (lg_cmp v0 65536) < 0 then (0) else (if 0 < (lg_cmp v0 131071) then (0) else (1))))) else (if (lg_cmp v0 511) ≤ 0 then (1) else (if (lg_cmp v0 4096) < 0 then (if (lg_cmp v0 65536) < 0 then (0) else (if 0 < (lg_cmp v0 131071) then (0) else (1))) else (if (lg_cmp v0 8191) ≤ 0 then (1) else (if (lg_cmp v0 65536) < 0 then (0) else (if 0 < (lg_cmp v0 131071) then (0) else (1))))))) else (if (lg_cmp v0 31) ≤ 0 then (1) else (if (lg_cmp v0 256) < 0 then (if (lg_cmp v0 4096) < 0 then (if (lg_cmp v0 65536) < 0 then (0) else (if 0 < (lg_cmp v0 131071) then (0) else (1))) else (if (lg_cmp v0 8191) ≤ 0 then (1) else (if (lg_cmp v0 65536) < 0 then (0) else (if 0 < (lg_cmp v0 131071) then (0) else (1))))) else (if (lg_cmp v0 511) ≤ 0 then (1) else (if (lg_cmp v0 4096) < 0 then (if (lg_cmp v0 65536) < 0 then (0) else (if 0 < (lg_cmp v0 131071) then (0) else (1))) else (if (lg_cmp v0 8191) ≤ 0 then (1) else (if (lg_cmp v0 65536) < 0 then (0) else (if 0 < (lg_cmp v0 131071) then (0) else (1)))))))))
def f_PA_length (v0 : Int32) : Int32 := if 16 ≤ v0 then (if 256 ≤ v0 then (if 4096 ≤ v0 then (if 65536 ≤ v0 then (4) else (3)) else (2)) else (1)) else (0)
def f_PA_nibble (v0 : Int32) (v1 : Int32) : Int32 := ((v0 >>> ((4 * (((f_PA_length v0) - v1) - 1)) &&& 31)) &&& 15)
def f_PA_front (v0 : Int32) (v1 : Int32) : Int32 := (v0 >>> ((4 * ((f_PA_length v0) - v1)) &&& 31))
def f_PA_without (v0 : Int32) (v1 : Int32) : Int32 := st (4 * ((f_PA_length v0) - v1)) fun x1 => ((1 <<< (x1 &&& 31)) ||| (v0 &&& ((1 <<< (x1 &&& 31)) - 1)))
def f_PA_begins (v0 : Int32) (v1 : Int32) : Int32 := if (f_PA_length v0) < (f_PA_length v1) then (0) else (if (f_PA_front v0 (f_PA_length v1)) = v1 then (1) else (0))
def f_PA_commonLength_14 : Nat → Int32 → Int32 → Int32 → Int32 → Option (Int32)
  | 0, _, _, _, _ => none
  | n + 1, v0, v1, v2, v3 => if v2 ≤ v3 then (some v3) else (if (f_PA_nibble v0 v3) = (f_PA_nibble v1 v3) then (f_PA_commonLength_14 n v0 v1 v2 (v3 + 1)) else (some v3))
def f_PA_commonLength (v0 : Int32) (v1 : Int32) : Option (Int32) := st (imin (f_PA_length v0) (f_PA_length v1)) fun x1 => f_PA_commonLength_14 FU v0 v1 x1 0
def f_PA_order (v0 : Int32) : Int32 := (((v0 <<< ((4 * (4 - (f_PA_length v0))) &&& 31)) <<< (3 &&& 31)) ||| (f_PA_length v0))
end
section
/-! pure functions, one a method, by program out of the bytecode -/
def f_PM_rowOf_2 (G : Nat → Nat) : Nat → Nat → Int32 → Int32 → Mm → Option (Int32)
  | 0, _, _, _, _ => none
  | n + 1, v0, v1, v2, M => if (gi M v0 2) ≤ v2 then (some (-1)) else ((ix v2 (G (gr M v0 0))).bind fun j2 => if (gi M (gr M v0 0) j2) = v1 then (some v2) else (f_PM_rowOf_2 G n v0 v1 (v2 + 1) M))
def f_PM_rowOf (G : Nat → Nat) (v0 : Nat) (v1 : Int32) (M : Mm) : Option (Int32) := f_PM_rowOf_2 G FU v0 v1 0 M
def f_PM_valueOf (G : Nat → Nat) (v0 : Nat) (v1 : Int32) (M : Mm) : Option (Int32) := (f_PM_rowOf G v0 v1 M).bind fun q1 => if q1 = (-1) then (some 0) else ((ix q1 (G (gr M v0 1))).bind fun j3 => some (gi M (gr M v0 1) j3))
def f_PM_insert_15 (G : Nat → Nat) : Nat → Nat → Int32 → Int32 → Int32 → Mm → Option (Mm)
  | 0, _, _, _, _, _ => none
  | n + 1, v0, v1, v2, v3, M => if v3 ≤ 0 then ((ix v3 (G (gr M v0 0))).bind fun j2 => st (si M (gr M v0 0) j2 v1) fun M3 => (ix v3 (G (gr M3 v0 1))).bind fun j5 => st (si M3 (gr M3 v0 1) j5 v2) fun M6 => st (si M6 v0 2 ((gi M6 v0 2) + 1)) fun M7 => some M7) else ((ix (v3 - 1) (G (gr M v0 0))).bind fun j9 => if (f_PA_order (gi M (gr M v0 0) j9)) ≤ (f_PA_order v1) then ((ix v3 (G (gr M v0 0))).bind fun j11 => st (si M (gr M v0 0) j11 v1) fun M12 => (ix v3 (G (gr M12 v0 1))).bind fun j14 => st (si M12 (gr M12 v0 1) j14 v2) fun M15 => st (si M15 v0 2 ((gi M15 v0 2) + 1)) fun M16 => some M16) else ((ix (v3 - 1) (G (gr M v0 0))).bind fun j19 => (ix v3 (G (gr M v0 0))).bind fun j20 => st (si M (gr M v0 0) j20 (gi M (gr M v0 0) j19)) fun M21 => (ix (v3 - 1) (G (gr M21 v0 1))).bind fun j24 => (ix v3 (G (gr M21 v0 1))).bind fun j25 => st (si M21 (gr M21 v0 1) j25 (gi M21 (gr M21 v0 1) j24)) fun M26 => f_PM_insert_15 G n v0 v1 v2 (v3 + (-1)) M26))
def f_PM_insert (G : Nat → Nat) (v0 : Nat) (v1 : Int32) (v2 : Int32) (M : Mm) : Option (Mm) := if (gi M v0 2) = 16 then (some M) else (f_PM_insert_15 G FU v0 v1 v2 (gi M v0 2) M)
def f_PM_remove_12 (G : Nat → Nat) : Nat → Nat → Int32 → Mm → Option (Mm)
  | 0, _, _, _ => none
  | n + 1, v0, v2, M => if (gi M v0 2) ≤ v2 then (some M) else ((ix (v2 + 1) (G (gr M v0 0))).bind fun j3 => (ix v2 (G (gr M v0 0))).bind fun j4 => st (si M (gr M v0 0) j4 (gi M (gr M v0 0) j3)) fun M5 => (ix (v2 + 1) (G (gr M5 v0 1))).bind fun j8 => (ix v2 (G (gr M5 v0 1))).bind fun j9 => st (si M5 (gr M5 v0 1) j9 (gi M5 (gr M5 v0 1) j8)) fun M10 => f_PM_remove_12 G n v0 (v2 + 1) M10)
def f_PM_remove (G : Nat → Nat) (v0 : Nat) (v1 : Int32) (M : Mm) : Option (Mm) := st (si M v0 2 ((gi M v0 2) - 1)) fun M1 => f_PM_remove_12 G FU v0 v1 M1
def f_PM_copy (G : Nat → Nat) (v0 : Nat) (v1 : Nat) (M : Mm) : Option (Mm) := st (si M v0 2 (gi M v1 2)) fun M1 => (cpI G M1 (gr M1 v1 0) 0 (gr M1 v0 0) 0 (gi M1 v0 2)).bind fun M4 => (cpI G M4 (gr M4 v1 1) 0 (gr M4 v0 1) 0 (gi M4 v0 2)).bind fun M7 => some M7
def f_PM_endsAt (G : Nat → Nat) (v0 : Nat) (v1 : Int32) (v2 : Int32) (M : Mm) : Option (Int32) := (ix v1 (G (gr M v0 0))).bind fun j2 => if (f_PA_length (gi M (gr M v0 0) j2)) = v2 then (some 1) else (some 0)
def f_PM_endOfChild_3 (G : Nat → Nat) : Nat → Nat → Int32 → Int32 → Int32 → Int32 → Mm → Option (Int32)
  | 0, _, _, _, _, _, _ => none
  | n + 1, v0, v2, v3, v4, v5, M => if v2 ≤ v5 then (some v5) else ((ix v5 (G (gr M v0 0))).bind fun j2 => if (f_PA_nibble (gi M (gr M v0 0) j2) v3) = v4 then (f_PM_endOfChild_3 G n v0 v2 v3 v4 (v5 + 1) M) else (some v5))
def f_PM_endOfChild (G : Nat → Nat) (v0 : Nat) (v1 : Int32) (v2 : Int32) (v3 : Int32) (v4 : Int32) (M : Mm) : Option (Int32) := f_PM_endOfChild_3 G FU v0 v2 v3 v4 v1 M
end
section
/-! pure functions, one a method, by program out of the bytecode -/
def f_NT_digest_6 (G : Nat → Nat) : Nat → Nat → Int32 → Int32 → Int64 → Int32 → Mm → Option (Int64)
  | 0, _, _, _, _, _, _ => none
  | n + 1, v0, v1, v2, v3, v5, M => if (v1 + v2) ≤ v5 then (some v3) else ((ix v5 (G v0)).bind fun j1 => st ((v3 ^^^ (gl M v0 j1)) * (-7046029254386353131)) fun x2 => st (x2 ^^^ (x2.toUInt64 >>> ((29 : Int32).toInt64.toUInt64 &&& Int64.toUInt64 63)).toInt64) fun x3 => f_NT_digest_6 G n v0 v1 v2 x3 (v5 + 1) M)
def f_NT_digest (G : Nat → Nat) (v0 : Nat) (v1 : Int32) (v2 : Int32) (M : Mm) : Option (Int64) := f_NT_digest_6 G FU v0 v1 v2 (v2.toInt64) v1 M
def f_PF_has (G : Nat → Nat) (v0 : Nat) (v1 : Int32) (M : Mm) : Int32 := if v1 < 0 then (0) else (if (gi M v0 1) ≤ v1 then (0) else (1))
def f_PF_end (G : Nat → Nat) (v0 : Nat) (v1 : Int64) (M : Mm) : Mm := st (si M v0 2 1) fun M1 => st (sl M1 v0 7 v1) fun M2 => M2
def f_PF_hasReference (G : Nat → Nat) (v0 : Nat) (v1 : Int32) (M : Mm) : Option (Int32) := if (f_PF_has G v0 v1 M) = 0 then (some 0) else ((ix v1 (G (gr M v0 0))).bind fun j3 => if (lg_cmp (gl M (gr M v0 0) j3) 0) < 0 then (some 0) else ((ix v1 (G (gr M v0 0))).bind fun j5 => if 0 < (lg_cmp (gl M (gr M v0 0) j5) 2) then (some 0) else ((ix v1 (G (gr M v0 0))).bind fun j7 => if 0 ≤ (lg_cmp ((v1.toInt64) + (gl M (gr M v0 0) j7)) ((gi M v0 1).toInt64)) then (some 0) else (some 1))))
def f_PF_followDigest_33 (G : Nat → Nat) : Nat → Nat → Int64 → Int32 → Int32 → Int32 → Int32 → Mm → Option (Mm)
  | 0, _, _, _, _, _, _, _ => none
  | n + 1, v0, v1, v3, v4, v5, v6, M => if 16 ≤ v6 then (if (f_PF_has G v0 v5 M) = 0 then (st (si M v0 2 2) fun M2 => some M2) else ((f_NT_digest G (gr M v0 0) v3 ((v5 + 1) - v3) M).bind fun q4 => if (lg_cmp q4 v1) = 0 then (st (si M v0 3 (v5 + 1)) fun M5 => if v4 = (-1) then ((ix v5 (G (gr M5 v0 0))).bind fun j8 => st (f_PF_end G v0 (gl M5 (gr M5 v0 0) j8) M5) fun q9 => some q9) else (st (si M5 v0 4 (f_PA_without (gi M5 v0 4) 1)) fun M6 => some M6)) else (st (si M v0 2 2) fun M10 => some M10))) else ((f_PF_hasReference G v0 v5 M).bind fun q11 => if q11 = 0 then (st (si M v0 2 2) fun M23 => some M23) else (if v6 = v4 then (st (si M v0 5 (v5 + 1)) fun M16 => (ix v5 (G (gr M16 v0 0))).bind fun j18 => st (si M16 v0 6 ((gl M16 (gr M16 v0 0) j18).toInt32)) fun M19 => (ix v5 (G (gr M19 v0 0))).bind fun j21 => st (v5 + (1 + ((gl M19 (gr M19 v0 0) j21).toInt32))) fun x22 => f_PF_followDigest_33 G n v0 v1 v3 v4 x22 (v6 + 1) M19) else ((ix v5 (G (gr M v0 0))).bind fun j14 => st (v5 + (1 + ((gl M (gr M v0 0) j14).toInt32))) fun x15 => f_PF_followDigest_33 G n v0 v1 v3 v4 x15 (v6 + 1) M)))
def f_PF_followDigest (G : Nat → Nat) (v0 : Nat) (v1 : Int64) (M : Mm) : Option (Mm) := if (gi M v0 4) = 1 then (f_PF_followDigest_33 G FU v0 v1 (gi M v0 3) (-1) (gi M v0 3) 0 M) else (st (f_PA_nibble (gi M v0 4) 0) fun x1 => f_PF_followDigest_33 G FU v0 v1 (gi M v0 3) x1 (gi M v0 3) 0 M)
def f_PF_followPair (G : Nat → Nat) (v0 : Nat) (v1 : Int64) (v3 : Int64) (M : Mm) : Mm := st (v1 >>> ((1 : Int32).toInt64 &&& 63)) fun x1 => if (lg_cmp (v1 &&& 1) 1) = 0 then (if (f_PA_isNumber x1) = 0 then (st (si M v0 2 2) fun M20 => M20) else (if 1 = 0 then (if (lg_cmp x1 1) = 0 then (st (si M v0 2 2) fun M35 => M35) else (if 1 = 0 then (if (f_PA_begins (gi M v0 4) (x1.toInt32)) = 0 then (st (f_PF_end G v0 0 M) fun q32 => q32) else (st (si M v0 4 (f_PA_without (gi M v0 4) (f_PA_length (x1.toInt32)))) fun M29 => st (si M29 v0 5 ((gi M29 v0 5) + 1)) fun M30 => st (si M30 v0 6 1) fun M31 => M31)) else (if (gi M v0 4) = (x1.toInt32) then (st (f_PF_end G v0 v3 M) fun q34 => q34) else (st (f_PF_end G v0 0 M) fun q33 => q33)))) else (if 1 = 0 then (if (f_PA_begins (gi M v0 4) (x1.toInt32)) = 0 then (st (f_PF_end G v0 0 M) fun q25 => q25) else (st (si M v0 4 (f_PA_without (gi M v0 4) (f_PA_length (x1.toInt32)))) fun M22 => st (si M22 v0 5 ((gi M22 v0 5) + 1)) fun M23 => st (si M23 v0 6 1) fun M24 => M24)) else (if (gi M v0 4) = (x1.toInt32) then (st (f_PF_end G v0 v3 M) fun q27 => q27) else (st (f_PF_end G v0 0 M) fun q26 => q26))))) else (if (f_PA_isNumber x1) = 0 then (st (si M v0 2 2) fun M3 => M3) else (if 0 = 0 then (if (lg_cmp x1 1) = 0 then (st (si M v0 2 2) fun M18 => M18) else (if 0 = 0 then (if (f_PA_begins (gi M v0 4) (x1.toInt32)) = 0 then (st (f_PF_end G v0 0 M) fun q15 => q15) else (st (si M v0 4 (f_PA_without (gi M v0 4) (f_PA_length (x1.toInt32)))) fun M12 => st (si M12 v0 5 ((gi M12 v0 5) + 1)) fun M13 => st (si M13 v0 6 1) fun M14 => M14)) else (if (gi M v0 4) = (x1.toInt32) then (st (f_PF_end G v0 v3 M) fun q17 => q17) else (st (f_PF_end G v0 0 M) fun q16 => q16)))) else (if 0 = 0 then (if (f_PA_begins (gi M v0 4) (x1.toInt32)) = 0 then (st (f_PF_end G v0 0 M) fun q8 => q8) else (st (si M v0 4 (f_PA_without (gi M v0 4) (f_PA_length (x1.toInt32)))) fun M5 => st (si M5 v0 5 ((gi M5 v0 5) + 1)) fun M6 => st (si M6 v0 6 1) fun M7 => M7)) else (if (gi M v0 4) = (x1.toInt32) then (st (f_PF_end G v0 v3 M) fun q10 => q10) else (st (f_PF_end G v0 0 M) fun q9 => q9)))))
def f_PF_takeTopReference (G : Nat → Nat) (v0 : Nat) (v1 : Int64) (M : Mm) : Option (Mm) := (f_PF_hasReference G v0 0 M).bind fun q1 => if q1 = 0 then (st (si M v0 2 2) fun M11 => some M11) else (st (si M v0 5 1) fun M3 => (ix 0 (G (gr M3 v0 0))).bind fun j5 => st (si M3 v0 6 ((gl M3 (gr M3 v0 0) j5).toInt32)) fun M6 => st (si M6 v0 3 (1 + (gi M6 v0 6))) fun M7 => (f_NT_digest G (gr M7 v0 0) 1 (gi M7 v0 6) M7).bind fun q9 => if (lg_cmp q9 v1) = 0 then (some M7) else (st (si M7 v0 2 2) fun M10 => some M10))
def f_PF_shows_18 (G : Nat → Nat) : Nat → Nat → Int64 → Int32 → Mm → Option (Int32 × Mm)
  | 0, _, _, _, _ => none
  | n + 1, v0, v4, v6, M => if 5 ≤ v6 then (if (gi M v0 2) = 1 then (if (gi M v0 3) = (gi M v0 1) then (if (lg_cmp (gl M v0 7) v4) = 0 then (some (1, M)) else (some (0, M))) else (some (0, M))) else (some (0, M))) else (if (gi M v0 2) = 0 then (if (gi M v0 6) = 0 then (st (f_PF_end G v0 0 M) fun q9 => f_PF_shows_18 G n v0 v4 (v6 + 1) q9) else (if (gi M v0 6) = 1 then ((ix (gi M v0 5) (G (gr M v0 0))).bind fun j7 => (f_PF_followDigest G v0 (gl M (gr M v0 0) j7) M).bind fun q8 => f_PF_shows_18 G n v0 v4 (v6 + 1) q8) else ((ix (gi M v0 5) (G (gr M v0 0))).bind fun j2 => (ix ((gi M v0 5) + 1) (G (gr M v0 0))).bind fun j4 => st (f_PF_followPair G v0 (gl M (gr M v0 0) j2) (gl M (gr M v0 0) j4) M) fun q5 => f_PF_shows_18 G n v0 v4 (v6 + 1) q5))) else (if (gi M v0 2) = 1 then (if (gi M v0 3) = (gi M v0 1) then (if (lg_cmp (gl M v0 7) v4) = 0 then (some (1, M)) else (some (0, M))) else (some (0, M))) else (some (0, M))))
def f_PF_shows (G : Nat → Nat) (v0 : Nat) (v1 : Int64) (v3 : Int32) (v4 : Int64) (M : Mm) : Option (Int32 × Mm) := st (si M v0 2 0) fun M1 => st (si M1 v0 4 v3) fun M2 => (f_PF_takeTopReference G v0 v1 M2).bind fun q3 => f_PF_shows_18 G FU v0 v4 0 q3
end
section
/-! pure functions, one a method, by program out of the bytecode -/
def f_TR_firstChildRow (G : Nat → Nat) (v0 : Nat) (v1 : Int32) (v2 : Int32) (M : Mm) : Option (Int32) := (f_PM_endsAt G (gr M v0 0) v1 v2 M).bind fun q2 => if q2 = 0 then (some v1) else (some (v1 + 1))
def f_TR_listBranch_75 (rc : Nat → Int32 → Int32 → Int32 → Int32 → Mm → Option (Mm)) (G : Nat → Nat) : Nat → Nat → Int32 → Int32 → Int32 → Int32 → Int32 → Mm → Option (Mm)
  | 0, _, _, _, _, _, _, _ => none
  | n + 1, v0, v2, v3, v5, v6, v7, M => if 16 ≤ v7 then (some M) else ((f_PM_endOfChild G (gr M v0 0) v6 v2 v3 v7 M).bind fun q2 => (rc v0 v6 q2 (v3 + 1) v5 M).bind fun q3 => f_TR_listBranch_75 rc G n v0 v2 v3 v5 q2 (v7 + 1) q3)
def f_TR_listBranch (rc : Nat → Int32 → Int32 → Int32 → Int32 → Mm → Option (Mm)) (G : Nat → Nat) (v0 : Nat) (v1 : Int32) (v2 : Int32) (v3 : Int32) (v4 : Int32) (M : Mm) : Option (Mm) := if 4 ≤ v3 then (some M) else (if (gi M v0 3) = 15 then (some M) else (st (si M v0 3 ((gi M v0 3) + 1)) fun M1 => (ix (gi M v0 3) (G (gr M1 v0 5))).bind fun j3 => st (si M1 (gr M1 v0 5) j3 v1) fun M4 => (ix (gi M v0 3) (G (gr M4 v0 6))).bind fun j6 => st (si M4 (gr M4 v0 6) j6 v2) fun M7 => (ix (gi M v0 3) (G (gr M7 v0 7))).bind fun j9 => st (si M7 (gr M7 v0 7) j9 v3) fun M10 => (ix (gi M v0 3) (G (gr M10 v0 4))).bind fun j12 => st (si M10 (gr M10 v0 4) j12 v4) fun M13 => (f_TR_firstChildRow G v0 v1 v3 M13).bind fun q14 => f_TR_listBranch_75 rc G FU v0 v2 v3 (gi M v0 3) q14 0 M13))
def f_TR_listPart (rc : Nat → Int32 → Int32 → Int32 → Int32 → Mm → Option (Mm)) (G : Nat → Nat) (v0 : Nat) (v1 : Int32) (v2 : Int32) (v3 : Int32) (v4 : Int32) (M : Mm) : Option (Mm) := if v1 = v2 then (some M) else (if (v2 - v1) = 1 then (st (si M v0 1 ((gi M v0 1) + 1)) fun M11 => some M11) else ((ix v1 (G (gr M (gr M v0 0) 0))).bind fun j3 => (ix (v2 - 1) (G (gr M (gr M v0 0) 0))).bind fun j6 => (f_PA_commonLength (gi M (gr M (gr M v0 0) 0) j3) (gi M (gr M (gr M v0 0) 0) j6)).bind fun q7 => if q7 ≤ v3 then ((f_TR_listBranch rc G v0 v1 v2 q7 v4 M).bind fun q8 => some q8) else (st (si M v0 2 ((gi M v0 2) + 1)) fun M9 => (f_TR_listBranch rc G v0 v1 v2 q7 v4 M9).bind fun q10 => some q10)))
def F_TR_listPart (G : Nat → Nat) : Nat → Nat → Int32 → Int32 → Int32 → Int32 → Mm → Option (Mm)
  | 0, _, _, _, _, _, _ => none
  | d + 1, v0, v1, v2, v3, v4, M => f_TR_listPart (fun v0 v1 v2 v3 v4 M => F_TR_listPart G d v0 v1 v2 v3 v4 M) G v0 v1 v2 v3 v4 M
def f_TR_list (G : Nat → Nat) (v0 : Nat) (M : Mm) : Option (Mm) := st (si M v0 1 0) fun M1 => st (si M1 v0 2 0) fun M2 => st (si M2 v0 3 0) fun M3 => (F_TR_listPart G RD v0 0 (gi M3 (gr M3 v0 0) 2) 0 (-1) M3).bind fun q5 => some q5
def f_TR_change (G : Nat → Nat) (v0 : Nat) (v1 : Int32) (v2 : Int32) (M : Mm) : Option (Int32 × Mm) := (f_PM_rowOf G (gr M v0 0) v1 M).bind fun q2 => if q2 = (-1) then (if v2 = 0 then (some (0, M)) else ((f_PM_insert G (gr M v0 0) v1 v2 M).bind fun q15 => (f_TR_list G v0 q15).bind fun q16 => some (0, q16))) else ((ix q2 (G (gr M (gr M v0 0) 1))).bind fun j5 => st (gi M (gr M (gr M v0 0) 1) j5) fun x6 => if v2 = 0 then ((f_PM_remove G (gr M v0 0) q2 M).bind fun q12 => (f_TR_list G v0 q12).bind fun q13 => some (x6, q13)) else ((ix q2 (G (gr M (gr M v0 0) 1))).bind fun j9 => st (si M (gr M (gr M v0 0) 1) j9 v2) fun M10 => some (x6, M10)))
def f_TR_becomeLike (G : Nat → Nat) (v0 : Nat) (v1 : Nat) (M : Mm) : Option (Mm) := (f_PM_copy G (gr M v0 0) (gr M v1 0) M).bind fun q3 => st (si q3 v0 1 (gi q3 v1 1)) fun M4 => st (si M4 v0 2 (gi M4 v1 2)) fun M5 => st (si M5 v0 3 (gi M5 v1 3)) fun M6 => (cpI G M6 (gr M6 v1 4) 0 (gr M6 v0 4) 0 (gi M6 v0 3)).bind fun M9 => (cpI G M9 (gr M9 v1 5) 0 (gr M9 v0 5) 0 (gi M9 v0 3)).bind fun M12 => (cpI G M12 (gr M12 v1 6) 0 (gr M12 v0 6) 0 (gi M12 v0 3)).bind fun M15 => (cpI G M15 (gr M15 v1 7) 0 (gr M15 v0 7) 0 (gi M15 v0 3)).bind fun M18 => some M18
def f_TR_writeBranch_15 (rc : Nat → Int32 → Int32 → Int32 → Nat → Int32 → Mm → Option (Int32 × Mm)) (G : Nat → Nat) : Nat → Nat → Int32 → Int32 → Int32 → Nat → Int32 → Int32 → Int32 → Int32 → Mm → Option (Int32 × Mm)
  | 0, _, _, _, _, _, _, _, _, _, _ => none
  | n + 1, v0, v1, v2, v3, v4, v5, v6, v7, v8, M => if 16 ≤ v8 then ((f_PM_endsAt G (gr M v0 0) v1 v3 M).bind fun q2 => if q2 = 0 then ((ix v6 (G v4)).bind fun j4 => st (sl M v4 j4 0) fun M5 => some (((v6 + 1) - v5), M5)) else ((ix v1 (G (gr M (gr M v0 0) 1))).bind fun j8 => (ix v6 (G v4)).bind fun j9 => st (sl M v4 j9 ((gi M (gr M (gr M v0 0) 1) j8).toInt64)) fun M10 => some (((v6 + 1) - v5), M10))) else ((f_PM_endOfChild G (gr M v0 0) v7 v2 v3 v8 M).bind fun q12 => (rc v0 v7 q12 (v3 + 1) v4 (v6 + 1) M).bind fun q13 => (ix v6 (G v4)).bind fun j14 => st (sl q13.2 v4 j14 (q13.1.toInt64)) fun M15 => f_TR_writeBranch_15 rc G n v0 v1 v2 v3 v4 v5 (v6 + (1 + q13.1)) q12 (v8 + 1) M15)
def f_TR_writeBranch (rc : Nat → Int32 → Int32 → Int32 → Nat → Int32 → Mm → Option (Int32 × Mm)) (G : Nat → Nat) (v0 : Nat) (v1 : Int32) (v2 : Int32) (v3 : Int32) (v4 : Nat) (v5 : Int32) (M : Mm) : Option (Int32 × Mm) := (f_TR_firstChildRow G v0 v1 v3 M).bind fun q1 => f_TR_writeBranch_15 rc G FU v0 v1 v2 v3 v4 v5 v5 q1 0 M
def f_TR_branchDigest (rc : Nat → Int32 → Int32 → Int32 → Nat → Int32 → Mm → Option (Int32 × Mm)) (G : Nat → Nat) (v0 : Nat) (v1 : Int32) (v2 : Int32) (v3 : Int32) (M : Mm) : Option (Int64 × Mm) := if v3 < 4 then ((ix v3 (G (gr M v0 9))).bind fun j2 => (f_TR_writeBranch rc G v0 v1 v2 v3 (gr M (gr M v0 9) j2) 0 M).bind fun q4 => (f_NT_digest G (gr M (gr M v0 9) j2) 0 q4.1 q4.2).bind fun q5 => some (q5, q4.2)) else (some (0, M))
def f_TR_writeReference (rc : Nat → Int32 → Int32 → Int32 → Nat → Int32 → Mm → Option (Int32 × Mm)) (G : Nat → Nat) (v0 : Nat) (v1 : Int32) (v2 : Int32) (v3 : Int32) (v4 : Nat) (v5 : Int32) (M : Mm) : Option (Int32 × Mm) := if v1 = v2 then (some (0, M)) else (if (v2 - v1) = 1 then ((ix v1 (G (gr M (gr M v0 0) 0))).bind fun j20 => (ix v5 (G v4)).bind fun j21 => st (sl M v4 j21 ((2 * ((f_PA_without (gi M (gr M (gr M v0 0) 0) j20) v3).toInt64)) + 1)) fun M22 => (ix v1 (G (gr M22 (gr M22 v0 0) 1))).bind fun j25 => (ix (v5 + 1) (G v4)).bind fun j26 => st (sl M22 v4 j26 ((gi M22 (gr M22 (gr M22 v0 0) 1) j25).toInt64)) fun M27 => some (2, M27)) else ((ix v1 (G (gr M (gr M v0 0) 0))).bind fun j3 => (ix (v2 - 1) (G (gr M (gr M v0 0) 0))).bind fun j6 => (f_PA_commonLength (gi M (gr M (gr M v0 0) 0) j3) (gi M (gr M (gr M v0 0) 0) j6)).bind fun q7 => (f_TR_branchDigest rc G v0 v1 v2 q7 M).bind fun q8 => if q7 = v3 then ((ix v5 (G v4)).bind fun j16 => st (sl q8.2 v4 j16 q8.1) fun M17 => some (1, M17)) else ((ix v1 (G (gr q8.2 (gr q8.2 v0 0) 0))).bind fun j11 => (ix v5 (G v4)).bind fun j12 => st (sl q8.2 v4 j12 (2 * ((f_PA_without (f_PA_front (gi q8.2 (gr q8.2 (gr q8.2 v0 0) 0) j11) q7) v3).toInt64))) fun M13 => (ix (v5 + 1) (G v4)).bind fun j14 => st (sl M13 v4 j14 q8.1) fun M15 => some (2, M15))))
def F_TR_writeReference (G : Nat → Nat) : Nat → Nat → Int32 → Int32 → Int32 → Nat → Int32 → Mm → Option (Int32 × Mm)
  | 0, _, _, _, _, _, _, _ => none
  | d + 1, v0, v1, v2, v3, v4, v5, M => f_TR_writeReference (fun v0 v1 v2 v3 v4 v5 M => F_TR_writeReference G d v0 v1 v2 v3 v4 v5 M) G v0 v1 v2 v3 v4 v5 M
def f_TR_rootNumber (G : Nat → Nat) (v0 : Nat) (M : Mm) : Option (Int64 × Mm) := (F_TR_writeReference G RD v0 0 (gi M (gr M v0 0) 2) 0 (gr M v0 8) 0 M).bind fun q3 => (f_NT_digest G (gr q3.2 v0 8) 0 q3.1 q3.2).bind fun q5 => some (q5, q3.2)
def f_TR_digestOf (G : Nat → Nat) (v0 : Nat) (v1 : Int32) (M : Mm) : Option (Int64 × Mm) := (ix v1 (G (gr M v0 5))).bind fun j2 => (ix v1 (G (gr M v0 6))).bind fun j4 => (ix v1 (G (gr M v0 7))).bind fun j6 => (f_TR_branchDigest (F_TR_writeReference G RD) G v0 (gi M (gr M v0 5) j2) (gi M (gr M v0 6) j4) (gi M (gr M v0 7) j6) M).bind fun q7 => some (q7.1, q7.2)
def f_TR_pathTo (G : Nat → Nat) (v0 : Nat) (v1 : Int32) (M : Mm) : Option (Int32) := (ix v1 (G (gr M v0 5))).bind fun j4 => (ix (gi M (gr M v0 5) j4) (G (gr M (gr M v0 0) 0))).bind fun j5 => (ix v1 (G (gr M v0 7))).bind fun j7 => some (f_PA_front (gi M (gr M (gr M v0 0) 0) j5) (gi M (gr M v0 7) j7))
def f_TR_writeProof_29 (G : Nat → Nat) : Nat → Nat → Int32 → Nat → Int32 → Int32 → Mm → Option (Int32 × Mm)
  | 0, _, _, _, _, _, _ => none
  | n + 1, v0, v1, v2, v4, v5, M => if (gi M v0 3) ≤ v5 then (some (v4, M)) else ((f_TR_pathTo G v0 v5 M).bind fun q1 => if (f_PA_begins v1 q1) = 0 then (f_TR_writeProof_29 G n v0 v1 v2 v4 (v5 + 1) M) else ((ix v5 (G (gr M v0 5))).bind fun j4 => (ix v5 (G (gr M v0 6))).bind fun j6 => (ix v5 (G (gr M v0 7))).bind fun j8 => (f_TR_writeBranch (F_TR_writeReference G RD) G v0 (gi M (gr M v0 5) j4) (gi M (gr M v0 6) j6) (gi M (gr M v0 7) j8) v2 v4 M).bind fun q9 => f_TR_writeProof_29 G n v0 v1 v2 (v4 + q9.1) (v5 + 1) q9.2))
def f_TR_writeProof (G : Nat → Nat) (v0 : Nat) (v1 : Int32) (v2 : Nat) (M : Mm) : Option (Int32 × Mm) := (F_TR_writeReference G RD v0 0 (gi M (gr M v0 0) 2) 0 v2 1 M).bind fun q2 => (ix 0 (G v2)).bind fun j3 => st (sl q2.2 v2 j3 (q2.1.toInt64)) fun M4 => f_TR_writeProof_29 G FU v0 v1 v2 (1 + q2.1) 0 M4
def f_TR_isSame_38 (G : Nat → Nat) : Nat → Nat → Int32 → Nat → Int32 → Int32 → Int32 → Mm → Option (Int32)
  | 0, _, _, _, _, _, _, _ => none
  | n + 1, v0, v1, v2, v3, v4, v5, M => if v4 ≤ v5 then (some 1) else ((ix v1 (G (gr M v0 5))).bind fun j2 => st ((gi M (gr M v0 5) j2) + v5) fun x3 => (ix v3 (G (gr M v2 5))).bind fun j5 => st ((gi M (gr M v2 5) j5) + v5) fun x6 => (ix x3 (G (gr M (gr M v0 0) 0))).bind fun j9 => (ix v1 (G (gr M v0 7))).bind fun j11 => st (f_PA_without (gi M (gr M (gr M v0 0) 0) j9) (gi M (gr M v0 7) j11)) fun x12 => (ix x6 (G (gr M (gr M v2 0) 0))).bind fun j15 => (ix v3 (G (gr M v2 7))).bind fun j17 => st (f_PA_without (gi M (gr M (gr M v2 0) 0) j15) (gi M (gr M v2 7) j17)) fun x18 => if x12 = x18 then ((ix x3 (G (gr M (gr M v0 0) 1))).bind fun j21 => (ix x6 (G (gr M (gr M v2 0) 1))).bind fun j24 => if (gi M (gr M (gr M v0 0) 1) j21) = (gi M (gr M (gr M v2 0) 1) j24) then (f_TR_isSame_38 G n v0 v1 v2 v3 v4 (v5 + 1) M) else (some 0)) else (some 0))
def f_TR_isSame (G : Nat → Nat) (v0 : Nat) (v1 : Int32) (v2 : Nat) (v3 : Int32) (M : Mm) : Option (Int32) := (ix v1 (G (gr M v0 6))).bind fun j2 => (ix v1 (G (gr M v0 5))).bind fun j4 => st ((gi M (gr M v0 6) j2) - (gi M (gr M v0 5) j4)) fun x5 => (ix v3 (G (gr M v2 6))).bind fun j7 => (ix v3 (G (gr M v2 5))).bind fun j9 => if x5 = ((gi M (gr M v2 6) j7) - (gi M (gr M v2 5) j9)) then (f_TR_isSame_38 G FU v0 v1 v2 v3 x5 0 M) else (some 0)
def f_TR_hasAmongFirst_3 (G : Nat → Nat) : Nat → Nat → Int32 → Nat → Int32 → Int32 → Mm → Option (Int32)
  | 0, _, _, _, _, _, _ => none
  | n + 1, v0, v1, v2, v3, v4, M => if v1 ≤ v4 then (some 0) else ((f_TR_isSame G v0 v4 v2 v3 M).bind fun q1 => if q1 = 0 then (f_TR_hasAmongFirst_3 G n v0 v1 v2 v3 (v4 + 1) M) else (some 1))
def f_TR_hasAmongFirst (G : Nat → Nat) (v0 : Nat) (v1 : Int32) (v2 : Nat) (v3 : Int32) (M : Mm) : Option (Int32) := f_TR_hasAmongFirst_3 G FU v0 v1 v2 v3 0 M
end
section
/-! pure functions, one a method, by program out of the bytecode -/
def f_NT_put (G : Nat → Nat) (v0 : Nat) (v1 : Int32) (v2 : Int32) (M : Mm) : Option (Int32 × Mm) := if (f_PA_isNumber (v1.toInt64)) = 0 then (some (0, M)) else ((f_TR_change G (gr M v0 0) v1 v2 M).bind fun q3 => some (q3.1, q3.2))
def f_NT_get (G : Nat → Nat) (v0 : Nat) (v1 : Int32) (M : Mm) : Option (Int32) := (f_PM_valueOf G (gr M (gr M v0 0) 0) v1 M).bind fun q3 => some q3
def f_NT_size (G : Nat → Nat) (v0 : Nat) (M : Mm) : Int32 := (gi M (gr M (gr M v0 0) 0) 2)
def f_NT_root (G : Nat → Nat) (v0 : Nat) (M : Mm) : Option (Int64 × Mm) := (f_TR_rootNumber G (gr M v0 0) M).bind fun q2 => some (q2.1, q2.2)
def f_NT_count (G : Nat → Nat) (v0 : Nat) (v1 : Int32) (M : Mm) : Int32 := if v1 = 0 then ((gi M (gr M v0 0) 1)) else if v1 = 1 then ((gi M (gr M v0 0) 2)) else if v1 = 2 then ((gi M (gr M v0 0) 3)) else ((-1))
def f_NT_isAmongVersions_3 (G : Nat → Nat) : Nat → Nat → Int32 → Nat → Int32 → Int32 → Mm → Option (Int32)
  | 0, _, _, _, _, _, _ => none
  | n + 1, v0, v1, v2, v3, v4, M => if v1 ≤ v4 then (some 0) else ((ix v4 (G (gr M v0 1))).bind fun j2 => (ix v4 (G (gr M v0 1))).bind fun j5 => (f_TR_hasAmongFirst G (gr M (gr M v0 1) j2) (gi M (gr M (gr M v0 1) j5) 3) v2 v3 M).bind fun q7 => if q7 = 0 then (f_NT_isAmongVersions_3 G n v0 v1 v2 v3 (v4 + 1) M) else (some 1))
def f_NT_isAmongVersions (G : Nat → Nat) (v0 : Nat) (v1 : Int32) (v2 : Nat) (v3 : Int32) (M : Mm) : Option (Int32) := f_NT_isAmongVersions_3 G FU v0 v1 v2 v3 0 M
def f_NT_branchesToWrite_4 (G : Nat → Nat) : Nat → Nat → Int32 → Int32 → Mm → Option (Int32)
  | 0, _, _, _, _ => none
  | n + 1, v0, v1, v2, M => if (gi M (gr M v0 0) 3) ≤ v2 then (some v1) else ((f_TR_hasAmongFirst G (gr M v0 0) v2 (gr M v0 0) v2 M).bind fun q4 => if q4 = 0 then ((f_NT_isAmongVersions G v0 (gi M v0 2) (gr M v0 0) v2 M).bind fun q7 => if q7 = 0 then (f_NT_branchesToWrite_4 G n v0 (v1 + 1) (v2 + 1) M) else (f_NT_branchesToWrite_4 G n v0 v1 (v2 + 1) M)) else (f_NT_branchesToWrite_4 G n v0 v1 (v2 + 1) M))
def f_NT_branchesToWrite (G : Nat → Nat) (v0 : Nat) (M : Mm) : Option (Int32) := f_NT_branchesToWrite_4 G FU v0 0 0 M
def f_NT_goDown (G : Nat → Nat) (v0 : Nat) (M : Mm) : Option (Mm) := (ix 0 (G (gr M v0 1))).bind fun j3 => (f_TR_becomeLike G (gr M v0 0) (gr M (gr M v0 1) j3) M).bind fun q5 => some q5
def f_NT_keepWorking_17 (G : Nat → Nat) : Nat → Nat → Nat → Int32 → Mm → Option (Mm)
  | 0, _, _, _, _ => none
  | n + 1, v0, v2, v3, M => if v3 ≤ 0 then ((ix 0 (G (gr M v0 1))).bind fun j2 => st (sr M (gr M v0 1) j2 v2) fun M3 => (f_TR_becomeLike G v2 (gr M3 v0 0) M3).bind fun q5 => st (si q5 v0 2 (imin ((gi q5 v0 2) + 1) (Int32.ofNat (G (gr q5 v0 1))))) fun M7 => some M7) else ((ix (v3 - 1) (G (gr M v0 1))).bind fun j10 => (ix v3 (G (gr M v0 1))).bind fun j12 => st (sr M (gr M v0 1) j12 (gr M (gr M v0 1) j10)) fun M13 => f_NT_keepWorking_17 G n v0 v2 (v3 + (-1)) M13)
def f_NT_keepWorking (G : Nat → Nat) (v0 : Nat) (M : Mm) : Option (Mm) := st ((Int32.ofNat (G (gr M v0 1))) - 1) fun x2 => (ix x2 (G (gr M v0 1))).bind fun j4 => f_NT_keepWorking_17 G FU v0 (gr M (gr M v0 1) j4) x2 M
def f_NT_commit (G : Nat → Nat) (v0 : Nat) (v1 : Int32) (M : Mm) : Option (Int32 × Mm) := (f_NT_branchesToWrite G v0 M).bind fun q1 => if (q1 + 1) ≤ v1 then ((f_NT_keepWorking G v0 M).bind fun q2 => some (q1, q2)) else ((f_NT_goDown G v0 M).bind fun q3 => some ((-1), q3))
def f_NT_crash (G : Nat → Nat) (v0 : Nat) (M : Mm) : Option (Int32 × Mm) := (f_NT_goDown G v0 M).bind fun q1 => some ((gi q1 (gr q1 (gr q1 v0 0) 0) 2), q1)
def f_NT_versions (G : Nat → Nat) (v0 : Nat) (M : Mm) : Int32 := (gi M v0 2)
def f_NT_isKept (G : Nat → Nat) (v0 : Nat) (v1 : Int32) (M : Mm) : Int32 := if v1 < 0 then (0) else (if (gi M v0 2) ≤ v1 then (0) else (1))
def f_NT_at (G : Nat → Nat) (v0 : Nat) (v1 : Int32) (v2 : Int32) (M : Mm) : Option (Int32) := if (f_NT_isKept G v0 v1 M) = 0 then (some 0) else ((ix v1 (G (gr M v0 1))).bind fun j3 => (f_PM_valueOf G (gr M (gr M (gr M v0 1) j3) 0) v2 M).bind fun q6 => some q6)
def f_NT_rootAt (G : Nat → Nat) (v0 : Nat) (v1 : Int32) (M : Mm) : Option (Int64 × Mm) := if (f_NT_isKept G v0 v1 M) = 0 then (some (0, M)) else ((ix v1 (G (gr M v0 1))).bind fun j3 => (f_TR_rootNumber G (gr M (gr M v0 1) j3) M).bind fun q5 => some (q5.1, q5.2))
def f_NT_isFirstOfItsKind (G : Nat → Nat) (v0 : Nat) (v1 : Int32) (v2 : Int32) (M : Mm) : Option (Int32) := (ix v1 (G (gr M v0 1))).bind fun j2 => (f_NT_isAmongVersions G v0 v1 (gr M (gr M v0 1) j2) v2 M).bind fun q4 => if q4 = 0 then ((ix v1 (G (gr M v0 1))).bind fun j7 => (ix v1 (G (gr M v0 1))).bind fun j10 => (f_TR_hasAmongFirst G (gr M (gr M v0 1) j7) v2 (gr M (gr M v0 1) j10) v2 M).bind fun q12 => if q12 = 0 then (some 1) else (some 0)) else (some 0)
def f_NT_stored_14 (G : Nat → Nat) (k4 : Nat → Int32 → Int32 → Mm → Option (Int32)) : Nat → Nat → Int32 → Int32 → Int32 → Mm → Option (Int32)
  | 0, _, _, _, _, _ => none
  | n + 1, v0, v1, v2, v3, M => (ix v2 (G (gr M v0 1))).bind fun j2 => if (gi M (gr M (gr M v0 1) j2) 3) ≤ v3 then (k4 v0 v1 (v2 + 1) M) else ((f_NT_isFirstOfItsKind G v0 v2 v3 M).bind fun q4 => if q4 = 0 then (f_NT_stored_14 G k4 n v0 v1 v2 (v3 + 1) M) else (f_NT_stored_14 G k4 n v0 (v1 + 1) v2 (v3 + 1) M))
def f_NT_stored_4 (G : Nat → Nat) : Nat → Nat → Int32 → Int32 → Mm → Option (Int32)
  | 0, _, _, _, _ => none
  | n + 1, v0, v1, v2, M => if (gi M v0 2) ≤ v2 then (some v1) else (f_NT_stored_14 G (fun y0 y1 y2 M => f_NT_stored_4 G n y0 y1 y2 M) FU v0 v1 v2 0 M)
def f_NT_stored (G : Nat → Nat) (v0 : Nat) (M : Mm) : Option (Int32) := f_NT_stored_4 G FU v0 0 0 M
def f_NT_isUse (G : Nat → Nat) (v0 : Nat) (v1 : Int32) (v2 : Int32) (M : Mm) : Option (Int32) := (ix v1 (G (gr M v0 1))).bind fun j2 => (ix v2 (G (gr M (gr M (gr M v0 1) j2) 4))).bind fun j5 => st (gi M (gr M (gr M (gr M v0 1) j2) 4) j5) fun x6 => if x6 = (-1) then (some 1) else ((f_NT_isFirstOfItsKind G v0 v1 x6 M).bind fun q7 => if q7 = 0 then (some 0) else (some 1))
def f_NT_uses_17 (G : Nat → Nat) (k5 : Nat → Int64 → Int32 → Int32 → Mm → Option (Int32 × Mm)) : Nat → Nat → Int64 → Int32 → Int32 → Int32 → Mm → Option (Int32 × Mm)
  | 0, _, _, _, _, _, _ => none
  | n + 1, v0, v1, v3, v4, v5, M => (ix v4 (G (gr M v0 1))).bind fun j2 => if (gi M (gr M (gr M v0 1) j2) 3) ≤ v5 then (k5 v0 v1 v3 (v4 + 1) M) else ((f_NT_isUse G v0 v4 v5 M).bind fun q4 => if q4 = 0 then (f_NT_uses_17 G k5 n v0 v1 v3 v4 (v5 + 1) M) else ((ix v4 (G (gr M v0 1))).bind fun j7 => (f_TR_digestOf G (gr M (gr M v0 1) j7) v5 M).bind fun q9 => if (lg_cmp q9.1 v1) = 0 then (f_NT_uses_17 G k5 n v0 v1 (v3 + 1) v4 (v5 + 1) q9.2) else (f_NT_uses_17 G k5 n v0 v1 v3 v4 (v5 + 1) q9.2)))
def f_NT_uses_5 (G : Nat → Nat) : Nat → Nat → Int64 → Int32 → Int32 → Mm → Option (Int32 × Mm)
  | 0, _, _, _, _, _ => none
  | n + 1, v0, v1, v3, v4, M => if (gi M v0 2) ≤ v4 then (some (v3, M)) else (f_NT_uses_17 G (fun y0 y1 y3 y4 M => f_NT_uses_5 G n y0 y1 y3 y4 M) FU v0 v1 v3 v4 0 M)
def f_NT_uses (G : Nat → Nat) (v0 : Nat) (v1 : Int64) (M : Mm) : Option (Int32 × Mm) := f_NT_uses_5 G FU v0 v1 0 0 M
def f_NT_prove (G : Nat → Nat) (v0 : Nat) (v1 : Int32) (v2 : Int32) (M : Mm) : Option (Int32 × Mm) := if (f_NT_isKept G v0 v1 M) = 0 then (some ((-1), M)) else (if (f_PA_isNumber (v2.toInt64)) = 0 then (some ((-1), M)) else ((ix v1 (G (gr M v0 1))).bind fun j5 => (f_TR_writeProof G (gr M (gr M v0 1) j5) v2 (gr M (gr M v0 3) 0) M).bind fun q9 => st (si q9.2 (gr M v0 3) 1 q9.1) fun M10 => some ((gi M10 (gr M10 v0 3) 1), M10)))
def f_NT_word (G : Nat → Nat) (v0 : Nat) (v1 : Int32) (M : Mm) : Option (Int64) := if (f_PF_has G (gr M v0 3) v1 M) = 0 then (some 0) else ((ix v1 (G (gr M (gr M v0 3) 0))).bind fun j5 => some (gl M (gr M (gr M v0 3) 0) j5))
def f_NT_alter (G : Nat → Nat) (v0 : Nat) (v1 : Int32) (v2 : Int64) (M : Mm) : Option (Int32 × Mm) := if (f_PF_has G (gr M v0 3) v1 M) = 0 then (some (0, M)) else ((ix v1 (G (gr M (gr M v0 3) 0))).bind fun j5 => st (sl M (gr M (gr M v0 3) 0) j5 v2) fun M6 => some (1, M6))
def f_NT_cut (G : Nat → Nat) (v0 : Nat) (M : Mm) : Int32 × Mm := if (gi M (gr M v0 3) 1) ≤ 0 then (((gi M (gr M v0 3) 1), M)) else (st (si M (gr M v0 3) 1 ((gi M (gr M v0 3) 1) - 1)) fun M4 => ((gi M4 (gr M4 v0 3) 1), M4))
def f_NT_verify (G : Nat → Nat) (v0 : Nat) (v1 : Int64) (v3 : Int32) (v4 : Int32) (M : Mm) : Option (Int32 × Mm) := if (f_PA_isNumber (v3.toInt64)) = 0 then (some (0, M)) else ((f_PF_shows G (gr M v0 3) v1 v3 (v4.toInt64) M).bind fun q3 => if q3.1 = 0 then (some (0, q3.2)) else (some (1, q3.2)))
end
section
/-! pure functions, one a method, by program out of the bytecode -/
def f_MO_nibbles (v0 : Int32) : Int32 := if v0 = 1 then (0) else (if v0 < 16 then (if v0 < 256 then (if v0 < 4096 then (if v0 < 65536 then ((-1)) else (if 131072 ≤ v0 then ((-1)) else (4))) else (if 8192 ≤ v0 then (if v0 < 65536 then ((-1)) else (if 131072 ≤ v0 then ((-1)) else (4))) else (3))) else (if 512 ≤ v0 then (if v0 < 4096 then (if v0 < 65536 then ((-1)) else (if 131072 ≤ v0 then ((-1)) else (4))) else (if 8192 ≤ v0 then (if v0 < 65536 then ((-1)) else (if 131072 ≤ v0 then ((-1)) else (4))) else (3))) else (2))) else (if 32 ≤ v0 then (if v0 < 256 then (if v0 < 4096 then (if v0 < 65536 then ((-1)) else (if 131072 ≤ v0 then ((-1)) else (4))) else (if 8192 ≤ v0 then (if v0 < 65536 then ((-1)) else (if 131072 ≤ v0 then ((-1)) else (4))) else (3))) else (if 512 ≤ v0 then (if v0 < 4096 then (if v0 < 65536 then ((-1)) else (if 131072 ≤ v0 then ((-1)) else (4))) else (if 8192 ≤ v0 then (if v0 < 65536 then ((-1)) else (if 131072 ≤ v0 then ((-1)) else (4))) else (3))) else (2))) else (1)))
def f_MO_begins (v0 : Int32) (v1 : Int32) : Int32 := st ((f_MO_nibbles v0) - (f_MO_nibbles v1)) fun x1 => if x1 < 0 then (0) else (if (v0 >>> ((4 * x1) &&& 31)) = v1 then (1) else (0))
def f_MO_behind (v0 : Int32) (v1 : Int32) : Int32 := st (4 * ((f_MO_nibbles v0) - (f_MO_nibbles v1))) fun x1 => ((v0 - (v1 <<< (x1 &&& 31))) + (1 <<< (x1 &&& 31)))
def f_MO_find_2 (G : Nat → Nat) : Nat → Nat → Int32 → Int32 → Int32 → Mm → Option (Int32)
  | 0, _, _, _, _, _ => none
  | n + 1, v0, v1, v2, v3, M => (ix v1 (G (gr M v0 2))).bind fun j2 => if (gi M (gr M v0 2) j2) ≤ v3 then (some (-1)) else ((ix ((16 * v1) + v3) (G (gr M v0 0))).bind fun j4 => if (gi M (gr M v0 0) j4) = v2 then (some ((16 * v1) + v3)) else (f_MO_find_2 G n v0 v1 v2 (v3 + 1) M))
def f_MO_find (G : Nat → Nat) (v0 : Nat) (v1 : Int32) (v2 : Int32) (M : Mm) : Option (Int32) := f_MO_find_2 G FU v0 v1 v2 0 M
def f_MO_copy_26 (G : Nat → Nat) : Nat → Nat → Int32 → Int32 → Int32 → Mm → Option (Mm)
  | 0, _, _, _, _, _ => none
  | n + 1, v0, v1, v2, v3, M => if 16 ≤ v3 then (some M) else ((ix ((16 * v1) + v3) (G (gr M v0 0))).bind fun j3 => (ix ((16 * v2) + v3) (G (gr M v0 0))).bind fun j4 => st (si M (gr M v0 0) j4 (gi M (gr M v0 0) j3)) fun M5 => (ix ((16 * v1) + v3) (G (gr M5 v0 1))).bind fun j8 => (ix ((16 * v2) + v3) (G (gr M5 v0 1))).bind fun j9 => st (si M5 (gr M5 v0 1) j9 (gi M5 (gr M5 v0 1) j8)) fun M10 => (ix ((16 * v1) + v3) (G (gr M10 v0 5))).bind fun j13 => (ix ((16 * v2) + v3) (G (gr M10 v0 5))).bind fun j14 => st (si M10 (gr M10 v0 5) j14 (gi M10 (gr M10 v0 5) j13)) fun M15 => (ix ((16 * v1) + v3) (G (gr M15 v0 6))).bind fun j18 => (ix ((16 * v2) + v3) (G (gr M15 v0 6))).bind fun j19 => st (sl M15 (gr M15 v0 6) j19 (gl M15 (gr M15 v0 6) j18)) fun M20 => f_MO_copy_26 G n v0 v1 v2 (v3 + 1) M20)
def f_MO_copy (G : Nat → Nat) (v0 : Nat) (v1 : Int32) (v2 : Int32) (M : Mm) : Option (Mm) := (ix v1 (G (gr M v0 2))).bind fun j3 => (ix v2 (G (gr M v0 2))).bind fun j4 => st (si M (gr M v0 2) j4 (gi M (gr M v0 2) j3)) fun M5 => (ix v1 (G (gr M5 v0 7))).bind fun j8 => (ix v2 (G (gr M5 v0 7))).bind fun j9 => st (si M5 (gr M5 v0 7) j9 (gi M5 (gr M5 v0 7) j8)) fun M10 => f_MO_copy_26 G FU v0 v1 v2 0 M10
def f_MO_put (G : Nat → Nat) (v0 : Nat) (v1 : Int32) (v2 : Int32) (M : Mm) : Option (Int32 × Mm) := if 0 ≤ (f_MO_nibbles v1) then ((f_MO_find G v0 0 v1 M).bind fun q1 => if 0 ≤ q1 then ((ix q1 (G (gr M v0 1))).bind fun j3 => st (gi M (gr M v0 1) j3) fun x4 => if q1 < 0 then (if q1 < 0 then (if v2 = 0 then (some (x4, M)) else ((ix 0 (G (gr M v0 2))).bind fun j6 => if 16 ≤ (gi M (gr M v0 2) j6) then (some (x4, M)) else ((ix 0 (G (gr M v0 2))).bind fun j9 => (ix (gi M (gr M v0 2) j9) (G (gr M v0 0))).bind fun j10 => st (si M (gr M v0 0) j10 v1) fun M11 => (ix 0 (G (gr M11 v0 2))).bind fun j14 => (ix (gi M11 (gr M11 v0 2) j14) (G (gr M11 v0 1))).bind fun j15 => st (si M11 (gr M11 v0 1) j15 v2) fun M16 => (ix 0 (G (gr M16 v0 2))).bind fun j18 => (ix 0 (G (gr M16 v0 2))).bind fun j19 => st (si M16 (gr M16 v0 2) j19 ((gi M16 (gr M16 v0 2) j18) + 1)) fun M20 => some (x4, M20)))) else ((ix q1 (G (gr M v0 1))).bind fun j22 => st (si M (gr M v0 1) j22 v2) fun M23 => some (x4, M23))) else (if v2 = 0 then ((ix 0 (G (gr M v0 2))).bind fun j44 => (ix 0 (G (gr M v0 2))).bind fun j45 => st (si M (gr M v0 2) j45 ((gi M (gr M v0 2) j44) - 1)) fun M46 => (ix 0 (G (gr M46 v0 2))).bind fun j50 => (ix (gi M46 (gr M46 v0 2) j50) (G (gr M46 v0 0))).bind fun j51 => (ix q1 (G (gr M46 v0 0))).bind fun j52 => st (si M46 (gr M46 v0 0) j52 (gi M46 (gr M46 v0 0) j51)) fun M53 => (ix 0 (G (gr M53 v0 2))).bind fun j57 => (ix (gi M53 (gr M53 v0 2) j57) (G (gr M53 v0 1))).bind fun j58 => (ix q1 (G (gr M53 v0 1))).bind fun j59 => st (si M53 (gr M53 v0 1) j59 (gi M53 (gr M53 v0 1) j58)) fun M60 => some (x4, M60)) else (if q1 < 0 then (if v2 = 0 then (some (x4, M)) else ((ix 0 (G (gr M v0 2))).bind fun j25 => if 16 ≤ (gi M (gr M v0 2) j25) then (some (x4, M)) else ((ix 0 (G (gr M v0 2))).bind fun j28 => (ix (gi M (gr M v0 2) j28) (G (gr M v0 0))).bind fun j29 => st (si M (gr M v0 0) j29 v1) fun M30 => (ix 0 (G (gr M30 v0 2))).bind fun j33 => (ix (gi M30 (gr M30 v0 2) j33) (G (gr M30 v0 1))).bind fun j34 => st (si M30 (gr M30 v0 1) j34 v2) fun M35 => (ix 0 (G (gr M35 v0 2))).bind fun j37 => (ix 0 (G (gr M35 v0 2))).bind fun j38 => st (si M35 (gr M35 v0 2) j38 ((gi M35 (gr M35 v0 2) j37) + 1)) fun M39 => some (x4, M39)))) else ((ix q1 (G (gr M v0 1))).bind fun j41 => st (si M (gr M v0 1) j41 v2) fun M42 => some (x4, M42))))) else (if q1 < 0 then (if q1 < 0 then (if v2 = 0 then (some (0, M)) else ((ix 0 (G (gr M v0 2))).bind fun j62 => if 16 ≤ (gi M (gr M v0 2) j62) then (some (0, M)) else ((ix 0 (G (gr M v0 2))).bind fun j65 => (ix (gi M (gr M v0 2) j65) (G (gr M v0 0))).bind fun j66 => st (si M (gr M v0 0) j66 v1) fun M67 => (ix 0 (G (gr M67 v0 2))).bind fun j70 => (ix (gi M67 (gr M67 v0 2) j70) (G (gr M67 v0 1))).bind fun j71 => st (si M67 (gr M67 v0 1) j71 v2) fun M72 => (ix 0 (G (gr M72 v0 2))).bind fun j74 => (ix 0 (G (gr M72 v0 2))).bind fun j75 => st (si M72 (gr M72 v0 2) j75 ((gi M72 (gr M72 v0 2) j74) + 1)) fun M76 => some (0, M76)))) else ((ix q1 (G (gr M v0 1))).bind fun j78 => st (si M (gr M v0 1) j78 v2) fun M79 => some (0, M79))) else (if v2 = 0 then ((ix 0 (G (gr M v0 2))).bind fun j100 => (ix 0 (G (gr M v0 2))).bind fun j101 => st (si M (gr M v0 2) j101 ((gi M (gr M v0 2) j100) - 1)) fun M102 => (ix 0 (G (gr M102 v0 2))).bind fun j106 => (ix (gi M102 (gr M102 v0 2) j106) (G (gr M102 v0 0))).bind fun j107 => (ix q1 (G (gr M102 v0 0))).bind fun j108 => st (si M102 (gr M102 v0 0) j108 (gi M102 (gr M102 v0 0) j107)) fun M109 => (ix 0 (G (gr M109 v0 2))).bind fun j113 => (ix (gi M109 (gr M109 v0 2) j113) (G (gr M109 v0 1))).bind fun j114 => (ix q1 (G (gr M109 v0 1))).bind fun j115 => st (si M109 (gr M109 v0 1) j115 (gi M109 (gr M109 v0 1) j114)) fun M116 => some (0, M116)) else (if q1 < 0 then (if v2 = 0 then (some (0, M)) else ((ix 0 (G (gr M v0 2))).bind fun j81 => if 16 ≤ (gi M (gr M v0 2) j81) then (some (0, M)) else ((ix 0 (G (gr M v0 2))).bind fun j84 => (ix (gi M (gr M v0 2) j84) (G (gr M v0 0))).bind fun j85 => st (si M (gr M v0 0) j85 v1) fun M86 => (ix 0 (G (gr M86 v0 2))).bind fun j89 => (ix (gi M86 (gr M86 v0 2) j89) (G (gr M86 v0 1))).bind fun j90 => st (si M86 (gr M86 v0 1) j90 v2) fun M91 => (ix 0 (G (gr M91 v0 2))).bind fun j93 => (ix 0 (G (gr M91 v0 2))).bind fun j94 => st (si M91 (gr M91 v0 2) j94 ((gi M91 (gr M91 v0 2) j93) + 1)) fun M95 => some (0, M95)))) else ((ix q1 (G (gr M v0 1))).bind fun j97 => st (si M (gr M v0 1) j97 v2) fun M98 => some (0, M98)))))) else (some (0, M))
def f_MO_valueIn (G : Nat → Nat) (v0 : Nat) (v1 : Int32) (v2 : Int32) (M : Mm) : Option (Int32) := (f_MO_find G v0 v1 v2 M).bind fun q1 => if 0 ≤ q1 then ((ix q1 (G (gr M v0 1))).bind fun j3 => some (gi M (gr M v0 1) j3)) else (some 0)
def f_MO_get (G : Nat → Nat) (v0 : Nat) (v1 : Int32) (M : Mm) : Option (Int32) := (f_MO_valueIn G v0 0 v1 M).bind fun q1 => some q1
def f_MO_size (G : Nat → Nat) (v0 : Nat) (M : Mm) : Option (Int32) := (ix 0 (G (gr M v0 2))).bind fun j2 => some (gi M (gr M v0 2) j2)
def f_MO_members_8 (G : Nat → Nat) : Nat → Nat → Int32 → Int32 → Int32 → Int32 → Mm → Option (Int32)
  | 0, _, _, _, _, _, _ => none
  | n + 1, v0, v1, v2, v3, v4, M => (ix v1 (G (gr M v0 2))).bind fun j2 => if ((16 * v1) + (gi M (gr M v0 2) j2)) ≤ v4 then (some v3) else ((ix v4 (G (gr M v0 0))).bind fun j4 => if (f_MO_begins (gi M (gr M v0 0) j4) v2) = 0 then (f_MO_members_8 G n v0 v1 v2 v3 (v4 + 1) M) else (f_MO_members_8 G n v0 v1 v2 (v3 + 1) (v4 + 1) M))
def f_MO_members (G : Nat → Nat) (v0 : Nat) (v1 : Int32) (v2 : Int32) (M : Mm) : Option (Int32) := f_MO_members_8 G FU v0 v1 v2 0 (16 * v1) M
def f_MO_member_5 (G : Nat → Nat) : Nat → Nat → Int32 → Int32 → Int32 → Mm → Option (Int32)
  | 0, _, _, _, _, _ => none
  | n + 1, v0, v1, v2, v3, M => (ix v1 (G (gr M v0 2))).bind fun j2 => if ((16 * v1) + (gi M (gr M v0 2) j2)) ≤ v3 then (some (-1)) else ((ix v3 (G (gr M v0 0))).bind fun j4 => if (f_MO_begins (gi M (gr M v0 0) j4) v2) = 0 then (f_MO_member_5 G n v0 v1 v2 (v3 + 1) M) else (some v3))
def f_MO_member (G : Nat → Nat) (v0 : Nat) (v1 : Int32) (v2 : Int32) (M : Mm) : Option (Int32) := f_MO_member_5 G FU v0 v1 v2 (16 * v1) M
def f_MO_common_35 (G : Nat → Nat) : Nat → Nat → Int32 → Int32 → Int32 → Int32 → Int32 → Mm → Option (Int32)
  | 0, _, _, _, _, _, _, _ => none
  | n + 1, v0, v1, v3, v4, v5, v6, M => if v6 < 0 then (some v5) else (st (v4 >>> ((4 * v6) &&& 31)) fun x1 => (f_MO_members G v0 v1 x1 M).bind fun q2 => if q2 = v3 then (f_MO_common_35 G n v0 v1 v3 v4 x1 (v6 + (-1)) M) else (f_MO_common_35 G n v0 v1 v3 v4 v5 (v6 + (-1)) M))
def f_MO_common (G : Nat → Nat) (v0 : Nat) (v1 : Int32) (v2 : Int32) (M : Mm) : Option (Int32) := (f_MO_members G v0 v1 v2 M).bind fun q1 => (f_MO_member G v0 v1 v2 M).bind fun q3 => (ix q3 (G (gr M v0 0))).bind fun j4 => st (gi M (gr M v0 0) j4) fun x5 => st ((f_MO_nibbles x5) - (f_MO_nibbles v2)) fun x6 => f_MO_common_35 G FU v0 v1 q1 x5 v2 x6 M
def f_MO_isBranch (G : Nat → Nat) (v0 : Nat) (v1 : Int32) (v2 : Int32) (M : Mm) : Option (Int32) := (f_MO_members G v0 v1 v2 M).bind fun q1 => if q1 ≤ 1 then (some 0) else ((f_MO_common G v0 v1 v2 M).bind fun q2 => if q2 = v2 then (some 1) else (some 0))
def f_MO_place_5 (G : Nat → Nat) : Nat → Nat → Int32 → Int32 → Int32 → Mm → Option (Int32)
  | 0, _, _, _, _, _ => none
  | n + 1, v0, v1, v2, v3, M => (ix v1 (G (gr M v0 7))).bind fun j2 => if ((16 * v1) + (gi M (gr M v0 7) j2)) ≤ v3 then (some (-1)) else ((ix v3 (G (gr M v0 5))).bind fun j4 => if (gi M (gr M v0 5) j4) = v2 then (some v3) else (f_MO_place_5 G n v0 v1 v2 (v3 + 1) M))
def f_MO_place (G : Nat → Nat) (v0 : Nat) (v1 : Int32) (v2 : Int32) (M : Mm) : Option (Int32) := f_MO_place_5 G FU v0 v1 v2 (16 * v1) M
def f_MO_say (G : Nat → Nat) (v0 : Nat) (v1 : Int64) (M : Mm) : Option (Mm) := (ix (gi M v0 9) (G (gr M v0 8))).bind fun j2 => st (sl M (gr M v0 8) j2 v1) fun M3 => st (si M3 v0 9 ((gi M3 v0 9) + 1)) fun M4 => some M4
def f_MO_reference (G : Nat → Nat) (v0 : Nat) (v1 : Int32) (v2 : Int32) (v3 : Int32) (M : Mm) : Option (Mm) := (f_MO_members G v0 v1 v2 M).bind fun q1 => if q1 = 0 then (if v3 = 0 then (some M) else ((f_MO_say G v0 0 M).bind fun q46 => some q46)) else (if q1 = 1 then ((f_MO_member G v0 v1 v2 M).bind fun q32 => if v3 = 0 then ((ix q32 (G (gr M v0 0))).bind fun j34 => (f_MO_say G v0 ((2 * ((f_MO_behind (gi M (gr M v0 0) j34) v2).toInt64)) + 1) M).bind fun q35 => (ix q32 (G (gr q35 v0 1))).bind fun j37 => (f_MO_say G v0 ((gi q35 (gr q35 v0 1) j37).toInt64) q35).bind fun q38 => some q38) else ((f_MO_say G v0 2 M).bind fun q39 => (ix q32 (G (gr q39 v0 0))).bind fun j41 => (f_MO_say G v0 ((2 * ((f_MO_behind (gi q39 (gr q39 v0 0) j41) v2).toInt64)) + 1) q39).bind fun q42 => (ix q32 (G (gr q42 v0 1))).bind fun j44 => (f_MO_say G v0 ((gi q42 (gr q42 v0 1) j44).toInt64) q42).bind fun q45 => some q45)) else ((f_MO_common G v0 v1 v2 M).bind fun q2 => if v3 = 0 then (if q2 = v2 then ((f_MO_place G v0 v1 q2 M).bind fun q4 => (ix q4 (G (gr M v0 6))).bind fun j5 => (f_MO_say G v0 (gl M (gr M v0 6) j5) M).bind fun q6 => some q6) else ((f_MO_say G v0 (2 * ((f_MO_behind q2 v2).toInt64)) M).bind fun q7 => (f_MO_place G v0 v1 q2 q7).bind fun q9 => (ix q9 (G (gr q7 v0 6))).bind fun j10 => (f_MO_say G v0 (gl q7 (gr q7 v0 6) j10) q7).bind fun q11 => some q11)) else (if q2 = v2 then ((f_MO_say G v0 1 M).bind fun q22 => if q2 = v2 then ((f_MO_place G v0 v1 q2 q22).bind fun q24 => (ix q24 (G (gr q22 v0 6))).bind fun j25 => (f_MO_say G v0 (gl q22 (gr q22 v0 6) j25) q22).bind fun q26 => some q26) else ((f_MO_say G v0 (2 * ((f_MO_behind q2 v2).toInt64)) q22).bind fun q27 => (f_MO_place G v0 v1 q2 q27).bind fun q29 => (ix q29 (G (gr q27 v0 6))).bind fun j30 => (f_MO_say G v0 (gl q27 (gr q27 v0 6) j30) q27).bind fun q31 => some q31)) else ((f_MO_say G v0 2 M).bind fun q12 => if q2 = v2 then ((f_MO_place G v0 v1 q2 q12).bind fun q14 => (ix q14 (G (gr q12 v0 6))).bind fun j15 => (f_MO_say G v0 (gl q12 (gr q12 v0 6) j15) q12).bind fun q16 => some q16) else ((f_MO_say G v0 (2 * ((f_MO_behind q2 v2).toInt64)) q12).bind fun q17 => (f_MO_place G v0 v1 q2 q17).bind fun q19 => (ix q19 (G (gr q17 v0 6))).bind fun j20 => (f_MO_say G v0 (gl q17 (gr q17 v0 6) j20) q17).bind fun q21 => some q21)))))
def f_MO_encode_2 (G : Nat → Nat) : Nat → Nat → Int32 → Int32 → Int32 → Mm → Option (Mm)
  | 0, _, _, _, _, _ => none
  | n + 1, v0, v1, v2, v3, M => if 16 ≤ v3 then ((f_MO_valueIn G v0 v1 v2 M).bind fun q1 => (f_MO_say G v0 (q1.toInt64) M).bind fun q2 => some q2) else ((f_MO_reference G v0 v1 ((16 * v2) + v3) 1 M).bind fun q3 => f_MO_encode_2 G n v0 v1 v2 (v3 + 1) q3)
def f_MO_encode (G : Nat → Nat) (v0 : Nat) (v1 : Int32) (v2 : Int32) (M : Mm) : Option (Mm) := f_MO_encode_2 G FU v0 v1 v2 0 M
end
section
/-! pure functions, one a method, by program out of the bytecode -/
def f_MO_mixed (v0 : Int64) (v2 : Int64) : Int64 := st ((v0 ^^^ v2) * (-7046029254386353131)) fun x1 => (x1 ^^^ (x1.toUInt64 >>> ((29 : Int32).toInt64.toUInt64 &&& Int64.toUInt64 63)).toInt64)
def f_MO_digestOfWords_8 (G : Nat → Nat) : Nat → Nat → Int64 → Int32 → Mm → Option (Int64)
  | 0, _, _, _, _ => none
  | n + 1, v0, v1, v3, M => if (gi M v0 9) ≤ v3 then (some v1) else ((ix v3 (G (gr M v0 8))).bind fun j2 => st (f_MO_mixed v1 (gl M (gr M v0 8) j2)) fun x3 => f_MO_digestOfWords_8 G n v0 x3 (v3 + 1) M)
def f_MO_digestOfWords (G : Nat → Nat) (v0 : Nat) (M : Mm) : Option (Int64) := st ((gi M v0 9).toInt64) fun x1 => f_MO_digestOfWords_8 G FU v0 x1 0 M
def f_MO_build_18 (G : Nat → Nat) (k9 : Nat → Int32 → Int32 → Mm → Option (Mm)) : Nat → Nat → Int32 → Int32 → Int32 → Mm → Option (Mm)
  | 0, _, _, _, _, _ => none
  | n + 1, v0, v1, v2, v3, M => (ix v1 (G (gr M v0 2))).bind fun j2 => if ((16 * v1) + (gi M (gr M v0 2) j2)) ≤ v3 then (k9 v0 v1 (v2 + (-1)) M) else ((ix v3 (G (gr M v0 0))).bind fun j4 => st ((f_MO_nibbles (gi M (gr M v0 0) j4)) - v2) fun x5 => if x5 < 0 then (if (-1) ≤ 0 then (f_MO_build_18 G k9 n v0 v1 v2 (v3 + 1) M) else ((f_MO_place G v0 v1 (-1) M).bind fun q6 => if 0 ≤ q6 then (f_MO_build_18 G k9 n v0 v1 v2 (v3 + 1) M) else ((f_MO_isBranch G v0 v1 (-1) M).bind fun q7 => if q7 = 0 then (f_MO_build_18 G k9 n v0 v1 v2 (v3 + 1) M) else (st (si M v0 9 0) fun M9 => (f_MO_encode G v0 v1 (-1) M9).bind fun q10 => (ix v1 (G (gr q10 v0 7))).bind fun j13 => (ix ((16 * v1) + (gi q10 (gr q10 v0 7) j13)) (G (gr q10 v0 5))).bind fun j14 => st (si q10 (gr q10 v0 5) j14 (-1)) fun M15 => (ix v1 (G (gr M15 v0 7))).bind fun j18 => (f_MO_digestOfWords G v0 M15).bind fun q19 => (ix ((16 * v1) + (gi M15 (gr M15 v0 7) j18)) (G (gr M15 v0 6))).bind fun j20 => st (sl M15 (gr M15 v0 6) j20 q19) fun M21 => (ix v1 (G (gr M21 v0 7))).bind fun j23 => (ix v1 (G (gr M21 v0 7))).bind fun j24 => st (si M21 (gr M21 v0 7) j24 ((gi M21 (gr M21 v0 7) j23) + 1)) fun M25 => f_MO_build_18 G k9 n v0 v1 v2 (v3 + 1) M25)))) else ((ix v3 (G (gr M v0 0))).bind fun j27 => st ((gi M (gr M v0 0) j27) >>> ((4 * x5) &&& 31)) fun x28 => if x28 ≤ 0 then (f_MO_build_18 G k9 n v0 v1 v2 (v3 + 1) M) else ((f_MO_place G v0 v1 x28 M).bind fun q29 => if 0 ≤ q29 then (f_MO_build_18 G k9 n v0 v1 v2 (v3 + 1) M) else ((f_MO_isBranch G v0 v1 x28 M).bind fun q30 => if q30 = 0 then (f_MO_build_18 G k9 n v0 v1 v2 (v3 + 1) M) else (st (si M v0 9 0) fun M32 => (f_MO_encode G v0 v1 x28 M32).bind fun q33 => (ix v1 (G (gr q33 v0 7))).bind fun j36 => (ix ((16 * v1) + (gi q33 (gr q33 v0 7) j36)) (G (gr q33 v0 5))).bind fun j37 => st (si q33 (gr q33 v0 5) j37 x28) fun M38 => (ix v1 (G (gr M38 v0 7))).bind fun j41 => (f_MO_digestOfWords G v0 M38).bind fun q42 => (ix ((16 * v1) + (gi M38 (gr M38 v0 7) j41)) (G (gr M38 v0 6))).bind fun j43 => st (sl M38 (gr M38 v0 6) j43 q42) fun M44 => (ix v1 (G (gr M44 v0 7))).bind fun j46 => (ix v1 (G (gr M44 v0 7))).bind fun j47 => st (si M44 (gr M44 v0 7) j47 ((gi M44 (gr M44 v0 7) j46) + 1)) fun M48 => f_MO_build_18 G k9 n v0 v1 v2 (v3 + 1) M48)))))
def f_MO_build_9 (G : Nat → Nat) : Nat → Nat → Int32 → Int32 → Mm → Option (Mm)
  | 0, _, _, _, _ => none
  | n + 1, v0, v1, v2, M => if v2 < 0 then (some M) else (f_MO_build_18 G (fun y0 y1 y2 M => f_MO_build_9 G n y0 y1 y2 M) FU v0 v1 v2 (16 * v1) M)
def f_MO_build (G : Nat → Nat) (v0 : Nat) (v1 : Int32) (M : Mm) : Option (Mm) := (ix v1 (G (gr M v0 7))).bind fun j2 => st (si M (gr M v0 7) j2 0) fun M3 => f_MO_build_9 G FU v0 v1 3 M3
def f_MO_rootOf (G : Nat → Nat) (v0 : Nat) (v1 : Int32) (M : Mm) : Option (Int64 × Mm) := st (si M v0 9 0) fun M1 => (f_MO_reference G v0 v1 1 0 M1).bind fun q2 => (f_MO_digestOfWords G v0 q2).bind fun q3 => some (q3, q2)
def f_MO_root (G : Nat → Nat) (v0 : Nat) (M : Mm) : Option (Int64 × Mm) := (f_MO_build G v0 0 M).bind fun q1 => (f_MO_rootOf G v0 0 q1).bind fun q2 => some (q2.1, q2.2)
def f_MO_count_73 (G : Nat → Nat) (k36 : Nat → Int32 → Int32 → Int32 → Int32 → Mm → Option (Int32 × Mm)) : Nat → Nat → Int32 → Int32 → Int32 → Int32 → Int32 → Mm → Option (Int32 × Mm)
  | 0, _, _, _, _, _, _, _ => none
  | n + 1, v0, v1, v2, v3, v4, v5, M => if 16 ≤ v5 then (k36 v0 v1 v2 v3 (v4 + 1) M) else ((ix v4 (G (gr M v0 5))).bind fun j2 => st ((16 * (gi M (gr M v0 5) j2)) + v5) fun x3 => (f_MO_members G v0 0 x3 M).bind fun q4 => if q4 ≤ 1 then (f_MO_count_73 G k36 n v0 v1 v2 v3 v4 (v5 + 1) M) else ((f_MO_common G v0 0 x3 M).bind fun q5 => if q5 = x3 then (f_MO_count_73 G k36 n v0 v1 v2 v3 v4 (v5 + 1) M) else (f_MO_count_73 G k36 n v0 v1 v2 (v3 + 1) v4 (v5 + 1) M)))
def f_MO_count_36 (G : Nat → Nat) : Nat → Nat → Int32 → Int32 → Int32 → Int32 → Mm → Option (Int32 × Mm)
  | 0, _, _, _, _, _, _ => none
  | n + 1, v0, v1, v2, v3, v4, M => (ix 0 (G (gr M v0 7))).bind fun j2 => if (gi M (gr M v0 7) j2) ≤ v4 then (if v1 = 0 then ((ix 0 (G (gr M v0 2))).bind fun j6 => some (((gi M (gr M v0 2) j6) - v2), M)) else (if v1 = 1 then (some (v3, M)) else (if v1 = 2 then ((ix 0 (G (gr M v0 7))).bind fun j4 => some ((gi M (gr M v0 7) j4), M)) else (some ((-1), M))))) else ((ix v4 (G (gr M v0 5))).bind fun j8 => (f_MO_find G v0 0 (gi M (gr M v0 5) j8) M).bind fun q9 => if q9 < 0 then (f_MO_count_73 G (fun y0 y1 y2 y3 y4 M => f_MO_count_36 G n y0 y1 y2 y3 y4 M) FU v0 v1 v2 v3 v4 0 M) else (f_MO_count_73 G (fun y0 y1 y2 y3 y4 M => f_MO_count_36 G n y0 y1 y2 y3 y4 M) FU v0 v1 (v2 + 1) v3 v4 0 M))
def f_MO_count (G : Nat → Nat) (v0 : Nat) (v1 : Int32) (M : Mm) : Option (Int32 × Mm) := (f_MO_build G v0 0 M).bind fun q1 => (ix 0 (G (gr q1 v0 2))).bind fun j3 => if (gi q1 (gr q1 v0 2) j3) ≤ 1 then (f_MO_count_36 G FU v0 v1 0 0 0 q1) else ((f_MO_common G v0 0 1 q1).bind fun q4 => if q4 = 1 then (f_MO_count_36 G FU v0 v1 0 0 0 q1) else (f_MO_count_36 G FU v0 v1 0 1 0 q1))
def f_MO_same_98 (G : Nat → Nat) (k53 : Nat → Int32 → Int32 → Int32 → Int32 → Int32 → Mm → Option (Int32)) : Nat → Nat → Int32 → Int32 → Int32 → Int32 → Int32 → Int32 → Int32 → Mm → Option (Int32)
  | 0, _, _, _, _, _, _, _, _, _ => none
  | n + 1, v0, v1, v2, v3, v4, v7, v8, v9, M => (ix v4 (G (gr M v0 2))).bind fun j2 => if ((16 * v4) + (gi M (gr M v0 2) j2)) ≤ v9 then (if v8 = 0 then (some 0) else (k53 v0 v1 v2 v3 v4 (v7 + 1) M)) else (if v8 = 0 then ((ix v9 (G (gr M v0 0))).bind fun j4 => (ix v2 (G (gr M v0 5))).bind fun j6 => if (f_MO_begins (gi M (gr M v0 0) j4) (gi M (gr M v0 5) j6)) = 0 then (f_MO_same_98 G k53 n v0 v1 v2 v3 v4 v7 0 (v9 + 1) M) else ((ix v7 (G (gr M v0 0))).bind fun j9 => (ix v1 (G (gr M v0 5))).bind fun j11 => (ix v9 (G (gr M v0 0))).bind fun j13 => (ix v2 (G (gr M v0 5))).bind fun j15 => if (f_MO_behind (gi M (gr M v0 0) j9) (gi M (gr M v0 5) j11)) = (f_MO_behind (gi M (gr M v0 0) j13) (gi M (gr M v0 5) j15)) then ((ix v7 (G (gr M v0 1))).bind fun j17 => (ix v9 (G (gr M v0 1))).bind fun j19 => if (gi M (gr M v0 1) j17) = (gi M (gr M v0 1) j19) then (f_MO_same_98 G k53 n v0 v1 v2 v3 v4 v7 1 (v9 + 1) M) else (f_MO_same_98 G k53 n v0 v1 v2 v3 v4 v7 0 (v9 + 1) M)) else (f_MO_same_98 G k53 n v0 v1 v2 v3 v4 v7 0 (v9 + 1) M))) else (f_MO_same_98 G k53 n v0 v1 v2 v3 v4 v7 1 (v9 + 1) M))
def f_MO_same_53 (G : Nat → Nat) : Nat → Nat → Int32 → Int32 → Int32 → Int32 → Int32 → Mm → Option (Int32)
  | 0, _, _, _, _, _, _, _ => none
  | n + 1, v0, v1, v2, v3, v4, v7, M => (ix v3 (G (gr M v0 2))).bind fun j2 => if ((16 * v3) + (gi M (gr M v0 2) j2)) ≤ v7 then (some 1) else ((ix v7 (G (gr M v0 0))).bind fun j4 => (ix v1 (G (gr M v0 5))).bind fun j6 => if (f_MO_begins (gi M (gr M v0 0) j4) (gi M (gr M v0 5) j6)) = 0 then (f_MO_same_53 G n v0 v1 v2 v3 v4 (v7 + 1) M) else (f_MO_same_98 G (fun y0 y1 y2 y3 y4 y7 M => f_MO_same_53 G n y0 y1 y2 y3 y4 y7 M) FU v0 v1 v2 v3 v4 v7 0 (16 * v4) M))
def f_MO_same (G : Nat → Nat) (v0 : Nat) (v1 : Int32) (v2 : Int32) (M : Mm) : Option (Int32) := (ix v1 (G (gr M v0 5))).bind fun j2 => (f_MO_members G v0 (v1 / 16) (gi M (gr M v0 5) j2) M).bind fun q3 => (ix v2 (G (gr M v0 5))).bind fun j5 => (f_MO_members G v0 (v2 / 16) (gi M (gr M v0 5) j5) M).bind fun q6 => if q3 = q6 then (f_MO_same_53 G FU v0 v1 v2 (v1 / 16) (v2 / 16) (16 * (v1 / 16)) M) else (some 0)
def f_MO_stands_32 (G : Nat → Nat) : Nat → Nat → Int32 → Int32 → Mm → Option (Int32)
  | 0, _, _, _, _ => none
  | n + 1, v0, v1, v2, M => if v1 ≤ v2 then (some 1) else ((ix (v2 / 16) (G (gr M v0 7))).bind fun j2 => if (gi M (gr M v0 7) j2) ≤ (v2 - v2 / 16 * 16) then (f_MO_stands_32 G n v0 v1 (v2 + 1) M) else ((f_MO_same G v0 v1 v2 M).bind fun q3 => if q3 = 0 then (f_MO_stands_32 G n v0 v1 (v2 + 1) M) else (some 0)))
def f_MO_stands (G : Nat → Nat) (v0 : Nat) (v1 : Int32) (M : Mm) : Option (Int32) := if (gi M v0 3) < (v1 / 16) then (some 0) else ((ix (v1 / 16) (G (gr M v0 7))).bind fun j2 => if (v1 - v1 / 16 * 16) < (gi M (gr M v0 7) j2) then (f_MO_stands_32 G FU v0 v1 16 M) else (some 0))
def f_MO_has_2 (G : Nat → Nat) : Nat → Nat → Int32 → Int32 → Mm → Option (Int32)
  | 0, _, _, _, _ => none
  | n + 1, v0, v1, v2, M => if (16 * ((gi M v0 3) + 1)) ≤ v2 then (some 0) else (if 16 ≤ v2 then ((ix (v2 / 16) (G (gr M v0 7))).bind fun j2 => if (gi M (gr M v0 7) j2) ≤ (v2 - v2 / 16 * 16) then (if 0 = 0 then (f_MO_has_2 G n v0 v1 (v2 + 1) M) else ((f_MO_same G v0 v1 v2 M).bind fun q3 => if q3 = 0 then (f_MO_has_2 G n v0 v1 (v2 + 1) M) else (some 1))) else (if 1 = 0 then (f_MO_has_2 G n v0 v1 (v2 + 1) M) else ((f_MO_same G v0 v1 v2 M).bind fun q5 => if q5 = 0 then (f_MO_has_2 G n v0 v1 (v2 + 1) M) else (some 1)))) else (if v1 ≤ v2 then (if 0 = 0 then (f_MO_has_2 G n v0 v1 (v2 + 1) M) else ((f_MO_same G v0 v1 v2 M).bind fun q7 => if q7 = 0 then (f_MO_has_2 G n v0 v1 (v2 + 1) M) else (some 1))) else (if 1 = 0 then (f_MO_has_2 G n v0 v1 (v2 + 1) M) else ((f_MO_same G v0 v1 v2 M).bind fun q9 => if q9 = 0 then (f_MO_has_2 G n v0 v1 (v2 + 1) M) else (some 1)))))
def f_MO_has (G : Nat → Nat) (v0 : Nat) (v1 : Int32) (M : Mm) : Option (Int32) := f_MO_has_2 G FU v0 v1 0 M
def f_MO_back (G : Nat → Nat) (v0 : Nat) (M : Mm) : Option (Mm) := if (gi M v0 3) = 0 then ((ix 0 (G (gr M v0 2))).bind fun j3 => st (si M (gr M v0 2) j3 0) fun M4 => some M4) else ((f_MO_copy G v0 1 0 M).bind fun q1 => some q1)
def f_MO_commit_87 (G : Nat → Nat) : Nat → Nat → Int32 → Int32 → Mm → Option (Int32 × Mm)
  | 0, _, _, _, _ => none
  | n + 1, v0, v2, v3, M => if v3 ≤ 0 then (some (v2, M)) else ((f_MO_copy G v0 (v3 - 1) v3 M).bind fun q1 => f_MO_commit_87 G n v0 v2 (v3 + (-1)) q1)
def f_MO_commit_9 (G : Nat → Nat) : Nat → Nat → Int32 → Int32 → Int32 → Mm → Option (Int32 × Mm)
  | 0, _, _, _, _, _ => none
  | n + 1, v0, v1, v2, v3, M => (ix 0 (G (gr M v0 7))).bind fun j2 => if (gi M (gr M v0 7) j2) ≤ v3 then (if (v2 + 1) ≤ v1 then (if (gi M v0 4) ≤ (gi M v0 3) then (st (si M v0 3 (gi M v0 3)) fun M3 => f_MO_commit_87 G FU v0 v2 (gi M3 v0 3) M3) else (st (si M v0 3 ((gi M v0 3) + 1)) fun M4 => f_MO_commit_87 G FU v0 v2 (gi M4 v0 3) M4)) else ((f_MO_back G v0 M).bind fun q5 => some ((-1), q5))) else ((f_MO_has G v0 v3 M).bind fun q6 => if q6 = 0 then (f_MO_commit_9 G n v0 v1 (v2 + 1) (v3 + 1) M) else (f_MO_commit_9 G n v0 v1 v2 (v3 + 1) M))
def f_MO_commit (G : Nat → Nat) (v0 : Nat) (v1 : Int32) (M : Mm) : Option (Int32 × Mm) := (f_MO_build G v0 0 M).bind fun q1 => f_MO_commit_9 G FU v0 v1 0 0 q1
def f_MO_crash (G : Nat → Nat) (v0 : Nat) (M : Mm) : Option (Int32 × Mm) := (f_MO_back G v0 M).bind fun q1 => (ix 0 (G (gr q1 v0 2))).bind fun j3 => some ((gi q1 (gr q1 v0 2) j3), q1)
def f_MO_versions (G : Nat → Nat) (v0 : Nat) (M : Mm) : Int32 := (gi M v0 3)
def f_MO_isVersion (G : Nat → Nat) (v0 : Nat) (v1 : Int32) (M : Mm) : Int32 := if v1 < 0 then (0) else (if (gi M v0 3) ≤ v1 then (0) else (1))
def f_MO_at (G : Nat → Nat) (v0 : Nat) (v1 : Int32) (v2 : Int32) (M : Mm) : Option (Int32) := if (f_MO_isVersion G v0 v1 M) = 0 then (some 0) else ((f_MO_valueIn G v0 (v1 + 1) v2 M).bind fun q2 => some q2)
def f_MO_rootAt (G : Nat → Nat) (v0 : Nat) (v1 : Int32) (M : Mm) : Option (Int64 × Mm) := if (f_MO_isVersion G v0 v1 M) = 0 then (some (0, M)) else ((f_MO_rootOf G v0 (v1 + 1) M).bind fun q2 => some (q2.1, q2.2))
def f_MO_stored_5 (G : Nat → Nat) : Nat → Nat → Int32 → Int32 → Mm → Option (Int32)
  | 0, _, _, _, _ => none
  | n + 1, v0, v1, v2, M => if 64 ≤ v2 then (some v1) else ((f_MO_stands G v0 v2 M).bind fun q1 => if q1 = 0 then (f_MO_stored_5 G n v0 v1 (v2 + 1) M) else (f_MO_stored_5 G n v0 (v1 + 1) (v2 + 1) M))
def f_MO_stored (G : Nat → Nat) (v0 : Nat) (M : Mm) : Option (Int32) := f_MO_stored_5 G FU v0 0 16 M
end
section
/-! pure functions, one a method, by program out of the bytecode -/
def f_MO_leads (G : Nat → Nat) (v0 : Nat) (v1 : Int32) (v2 : Int32) (v3 : Int32) (M : Mm) : Option (Int32) := (f_MO_members G v0 v1 v2 M).bind fun q1 => if 2 ≤ q1 then ((f_MO_common G v0 v1 v2 M).bind fun q2 => (f_MO_place G v0 v1 q2 M).bind fun q3 => (f_MO_same G v0 v3 q3 M).bind fun q4 => some q4) else (some 0)
def f_MO_usesOf_55 (G : Nat → Nat) (k39 : Nat → Int32 → Int32 → Int32 → Mm → Option (Int32)) : Nat → Nat → Int32 → Int32 → Int32 → Int32 → Int32 → Mm → Option (Int32)
  | 0, _, _, _, _, _, _, _ => none
  | n + 1, v0, v1, v2, v3, v4, v5, M => if 16 ≤ v5 then (k39 v0 v1 v2 (v3 + 1) M) else (if v4 = 0 then (k39 v0 v1 v2 (v3 + 1) M) else ((ix v3 (G (gr M v0 5))).bind fun j2 => (f_MO_leads G v0 (v3 / 16) ((16 * (gi M (gr M v0 5) j2)) + v5) v1 M).bind fun q3 => if q3 = 0 then (f_MO_usesOf_55 G k39 n v0 v1 v2 v3 v4 (v5 + 1) M) else (f_MO_usesOf_55 G k39 n v0 v1 (v2 + 1) v3 v4 (v5 + 1) M)))
def f_MO_usesOf_39 (G : Nat → Nat) : Nat → Nat → Int32 → Int32 → Int32 → Mm → Option (Int32)
  | 0, _, _, _, _, _ => none
  | n + 1, v0, v1, v2, v3, M => if 64 ≤ v3 then (some v2) else ((f_MO_stands G v0 v3 M).bind fun q1 => f_MO_usesOf_55 G (fun y0 y1 y2 y3 M => f_MO_usesOf_39 G n y0 y1 y2 y3 M) FU v0 v1 v2 v3 q1 0 M)
def f_MO_usesOf_4 (G : Nat → Nat) : Nat → Nat → Int32 → Int32 → Int32 → Mm → Option (Int32)
  | 0, _, _, _, _, _ => none
  | n + 1, v0, v1, v2, v3, M => if (gi M v0 3) < v3 then (f_MO_usesOf_39 G FU v0 v1 v2 16 M) else ((f_MO_leads G v0 v3 1 v1 M).bind fun q1 => if q1 = 0 then (f_MO_usesOf_4 G n v0 v1 v2 (v3 + 1) M) else (f_MO_usesOf_4 G n v0 v1 (v2 + 1) (v3 + 1) M))
def f_MO_usesOf (G : Nat → Nat) (v0 : Nat) (v1 : Int32) (M : Mm) : Option (Int32) := f_MO_usesOf_4 G FU v0 v1 0 1 M
def f_MO_uses_6 (G : Nat → Nat) : Nat → Nat → Int64 → Int32 → Int32 → Mm → Option (Int32)
  | 0, _, _, _, _, _ => none
  | n + 1, v0, v1, v3, v4, M => if 64 ≤ v4 then (some v3) else ((f_MO_stands G v0 v4 M).bind fun q1 => if q1 = 0 then (f_MO_uses_6 G n v0 v1 v3 (v4 + 1) M) else ((ix v4 (G (gr M v0 6))).bind fun j4 => if (lg_cmp (gl M (gr M v0 6) j4) v1) = 0 then ((f_MO_usesOf G v0 v4 M).bind fun q5 => f_MO_uses_6 G n v0 v1 (v3 + q5) (v4 + 1) M) else (f_MO_uses_6 G n v0 v1 v3 (v4 + 1) M)))
def f_MO_uses (G : Nat → Nat) (v0 : Nat) (v1 : Int64) (M : Mm) : Option (Int32) := f_MO_uses_6 G FU v0 v1 0 16 M
def f_MO_append_2 (G : Nat → Nat) : Nat → Nat → Int32 → Mm → Option (Mm)
  | 0, _, _, _ => none
  | n + 1, v0, v1, M => if (gi M v0 9) ≤ v1 then (some M) else ((ix v1 (G (gr M v0 8))).bind fun j3 => (ix (gi M v0 11) (G (gr M v0 10))).bind fun j4 => st (sl M (gr M v0 10) j4 (gl M (gr M v0 8) j3)) fun M5 => st (si M5 v0 11 ((gi M5 v0 11) + 1)) fun M6 => f_MO_append_2 G n v0 (v1 + 1) M6)
def f_MO_append (G : Nat → Nat) (v0 : Nat) (M : Mm) : Option (Mm) := f_MO_append_2 G FU v0 0 M
def f_MO_prove_45 (G : Nat → Nat) : Nat → Nat → Int32 → Int32 → Int32 → Int32 → Mm → Option (Int32 × Mm)
  | 0, _, _, _, _, _, _ => none
  | n + 1, v0, v1, v2, v3, v4, M => if v3 < v4 then (some ((gi M v0 11), M)) else (st (v2 >>> ((4 * (v3 - v4)) &&& 31)) fun x1 => (f_MO_place G v0 (v1 + 1) x1 M).bind fun q2 => if q2 < 0 then (f_MO_prove_45 G n v0 v1 v2 v3 (v4 + 1) M) else (st (si M v0 9 0) fun M3 => (f_MO_encode G v0 (v1 + 1) x1 M3).bind fun q4 => (f_MO_append G v0 q4).bind fun q5 => f_MO_prove_45 G n v0 v1 v2 v3 (v4 + 1) q5))
def f_MO_prove (G : Nat → Nat) (v0 : Nat) (v1 : Int32) (v2 : Int32) (M : Mm) : Option (Int32 × Mm) := if (f_MO_isVersion G v0 v1 M) = 0 then (some ((-1), M)) else (if 0 ≤ (f_MO_nibbles v2) then (st (si M v0 11 0) fun M2 => st (si M2 v0 9 0) fun M3 => (f_MO_reference G v0 (v1 + 1) 1 1 M3).bind fun q4 => (f_MO_append G v0 q4).bind fun q5 => f_MO_prove_45 G FU v0 v1 v2 (f_MO_nibbles v2) 0 q5) else (some ((-1), M)))
def f_MO_word (G : Nat → Nat) (v0 : Nat) (v1 : Int32) (M : Mm) : Option (Int64) := if v1 < 0 then (some 0) else (if (gi M v0 11) ≤ v1 then (some 0) else ((ix v1 (G (gr M v0 10))).bind fun j2 => some (gl M (gr M v0 10) j2)))
def f_MO_alter (G : Nat → Nat) (v0 : Nat) (v1 : Int32) (v2 : Int64) (M : Mm) : Option (Int32 × Mm) := if v1 < 0 then (some (0, M)) else (if v1 < (gi M v0 11) then ((ix v1 (G (gr M v0 10))).bind fun j2 => st (sl M (gr M v0 10) j2 v2) fun M3 => some (1, M3)) else (some (0, M)))
def f_MO_cut (G : Nat → Nat) (v0 : Nat) (M : Mm) : Int32 × Mm := if (gi M v0 11) = 0 then (st (si M v0 11 0) fun M2 => ((gi M2 v0 11), M2)) else (st (si M v0 11 ((gi M v0 11) - 1)) fun M1 => ((gi M1 v0 11), M1))
def f_MO_few (v0 : Int64) : Int32 := if (lg_cmp v0 0) < 0 then (0) else (if 0 < (lg_cmp v0 2) then (0) else (1))
def f_MO_digestOf_8 (G : Nat → Nat) : Nat → Nat → Int32 → Int64 → Int32 → Mm → Option (Int64)
  | 0, _, _, _, _, _ => none
  | n + 1, v0, v2, v3, v5, M => if v2 ≤ v5 then (some v3) else ((ix v5 (G (gr M v0 10))).bind fun j2 => st (f_MO_mixed v3 (gl M (gr M v0 10) j2)) fun x3 => f_MO_digestOf_8 G n v0 v2 x3 (v5 + 1) M)
def f_MO_digestOf (G : Nat → Nat) (v0 : Nat) (v1 : Int32) (v2 : Int32) (M : Mm) : Option (Int64) := st ((v2 - v1).toInt64) fun x1 => f_MO_digestOf_8 G FU v0 v2 x1 v1 M
def f_MO_refer (G : Nat → Nat) (v0 : Nat) (v1 : Int32) (v2 : Int32) (M : Mm) : Option (Int32 × Mm) := st (si M v0 15 v2) fun M1 => if (v1 + v2) ≤ (gi M1 v0 11) then (if v2 ≤ 0 then (st (sl M1 v0 13 0) fun M2 => if v2 ≤ 1 then (st (sl M2 v0 14 0) fun M3 => some (1, M3)) else ((ix (v1 + 1) (G (gr M2 v0 10))).bind fun j5 => st (sl M2 v0 14 (gl M2 (gr M2 v0 10) j5)) fun M6 => some (1, M6))) else ((ix v1 (G (gr M1 v0 10))).bind fun j8 => st (sl M1 v0 13 (gl M1 (gr M1 v0 10) j8)) fun M9 => if v2 ≤ 1 then (st (sl M9 v0 14 0) fun M10 => some (1, M10)) else ((ix (v1 + 1) (G (gr M9 v0 10))).bind fun j12 => st (sl M9 v0 14 (gl M9 (gr M9 v0 10) j12)) fun M13 => some (1, M13)))) else (some (0, M1))
def f_MO_branchEnd_7 (G : Nat → Nat) : Nat → Nat → Int32 → Int32 → Mm → Option (Int32)
  | 0, _, _, _, _ => none
  | n + 1, v0, v1, v2, M => if 16 ≤ v2 then (if (gi M v0 11) ≤ v1 then (some (-1)) else (some (v1 + 1))) else (if (gi M v0 11) ≤ v1 then (some (-1)) else ((ix v1 (G (gr M v0 10))).bind fun j2 => if (f_MO_few (gl M (gr M v0 10) j2)) = 0 then (some (-1)) else ((ix v1 (G (gr M v0 10))).bind fun j5 => st ((v1 + 1) + ((gl M (gr M v0 10) j5).toInt32)) fun x6 => f_MO_branchEnd_7 G n v0 x6 (v2 + 1) M)))
def f_MO_branchEnd (G : Nat → Nat) (v0 : Nat) (M : Mm) : Option (Int32) := f_MO_branchEnd_7 G FU v0 (gi M v0 12) 0 M
def f_MO_throughBranch_82 (G : Nat → Nat) : Nat → Nat → Int32 → Int32 → Int32 → Mm → Option (Int32 × Mm)
  | 0, _, _, _, _, _ => none
  | n + 1, v0, v3, v4, v5, M => if v4 ≤ v5 then (st (si M v0 16 (f_MO_behind (gi M v0 16) (16 + v4))) fun M1 => (ix v3 (G (gr M1 v0 10))).bind fun j3 => (f_MO_refer G v0 (v3 + 1) ((gl M1 (gr M1 v0 10) j3).toInt32) M1).bind fun q4 => if q4.1 = 0 then (some ((-1), q4.2)) else (some (0, q4.2))) else ((ix v3 (G (gr M v0 10))).bind fun j7 => st ((v3 + 1) + ((gl M (gr M v0 10) j7).toInt32)) fun x8 => f_MO_throughBranch_82 G n v0 x8 v4 (v5 + 1) M)
def f_MO_throughBranch (G : Nat → Nat) (v0 : Nat) (M : Mm) : Option (Int32 × Mm) := (f_MO_branchEnd G v0 M).bind fun q1 => if q1 < 0 then (some ((-1), M)) else ((f_MO_digestOf G v0 (gi M v0 12) q1 M).bind fun q2 => if (lg_cmp q2 (gl M v0 13)) = 0 then (st (f_MO_nibbles (gi M v0 16)) fun x3 => st (si M v0 12 q1) fun M4 => if x3 = 0 then ((ix (q1 - 1) (G (gr M4 v0 10))).bind fun j7 => st (sl M4 v0 13 (gl M4 (gr M4 v0 10) j7)) fun M8 => some (1, M8)) else (st (((gi M4 v0 16) >>> ((4 * (x3 - 1)) &&& 31)) &&& 15) fun x5 => f_MO_throughBranch_82 G FU v0 (gi M v0 12) x5 0 M4)) else (some ((-1), M)))
def f_MO_throughTwo (G : Nat → Nat) (v0 : Nat) (M : Mm) : Int32 × Mm := if (lg_cmp (gl M v0 13) 3) < 0 then (if (-1) < 0 then (((-1), M)) else (if 0 ≤ (f_MO_nibbles (-1)) then (if (lg_cmp ((gl M v0 13) &&& 1) 1) = 0 then (if (-1) = (gi M v0 16) then (st (sl M v0 13 (gl M v0 14)) fun M7 => (1, M7)) else (st (sl M v0 13 0) fun M6 => (1, M6))) else (if (f_MO_begins (gi M v0 16) (-1)) = 0 then (st (sl M v0 13 0) fun M5 => (1, M5)) else (st (si M v0 16 (f_MO_behind (gi M v0 16) (-1))) fun M2 => st (sl M2 v0 13 (gl M2 v0 14)) fun M3 => st (si M3 v0 15 1) fun M4 => (0, M4)))) else (((-1), M)))) else (if (lg_cmp (gl M v0 13) 262143) ≤ 0 then (st (((gl M v0 13) >>> ((1 : Int32).toInt64 &&& 63)).toInt32) fun x8 => if x8 < 0 then (((-1), M)) else (if 0 ≤ (f_MO_nibbles x8) then (if (lg_cmp ((gl M v0 13) &&& 1) 1) = 0 then (if x8 = (gi M v0 16) then (st (sl M v0 13 (gl M v0 14)) fun M15 => (1, M15)) else (st (sl M v0 13 0) fun M14 => (1, M14))) else (if (f_MO_begins (gi M v0 16) x8) = 0 then (st (sl M v0 13 0) fun M13 => (1, M13)) else (st (si M v0 16 (f_MO_behind (gi M v0 16) x8)) fun M10 => st (sl M10 v0 13 (gl M10 v0 14)) fun M11 => st (si M11 v0 15 1) fun M12 => (0, M12)))) else (((-1), M)))) else (if (-1) < 0 then (((-1), M)) else (if 0 ≤ (f_MO_nibbles (-1)) then (if (lg_cmp ((gl M v0 13) &&& 1) 1) = 0 then (if (-1) = (gi M v0 16) then (st (sl M v0 13 (gl M v0 14)) fun M22 => (1, M22)) else (st (sl M v0 13 0) fun M21 => (1, M21))) else (if (f_MO_begins (gi M v0 16) (-1)) = 0 then (st (sl M v0 13 0) fun M20 => (1, M20)) else (st (si M v0 16 (f_MO_behind (gi M v0 16) (-1))) fun M17 => st (sl M17 v0 13 (gl M17 v0 14)) fun M18 => st (si M18 v0 15 1) fun M19 => (0, M19)))) else (((-1), M)))))
def f_MO_verify_82 (G : Nat → Nat) : Nat → Nat → Int32 → Int32 → Int32 → Mm → Option (Int32 × Mm)
  | 0, _, _, _, _, _ => none
  | n + 1, v0, v4, v6, v7, M => if 64 ≤ v7 then (if v6 = 1 then (if (gi M v0 12) = (gi M v0 11) then (if (lg_cmp (gl M v0 13) (v4.toInt64)) = 0 then (some (1, M)) else (some (0, M))) else (some (0, M))) else (some (0, M))) else (if v6 = 0 then (if (gi M v0 15) = 0 then (st (sl M v0 13 0) fun M3 => f_MO_verify_82 G n v0 v4 1 (v7 + 1) M3) else (if (gi M v0 15) = 2 then (st (f_MO_throughTwo G v0 M) fun q2 => f_MO_verify_82 G n v0 v4 q2.1 (v7 + 1) q2.2) else ((f_MO_throughBranch G v0 M).bind fun q1 => f_MO_verify_82 G n v0 v4 q1.1 (v7 + 1) q1.2))) else (if v6 = 1 then (if (gi M v0 12) = (gi M v0 11) then (if (lg_cmp (gl M v0 13) (v4.toInt64)) = 0 then (some (1, M)) else (some (0, M))) else (some (0, M))) else (some (0, M))))
def f_MO_verify (G : Nat → Nat) (v0 : Nat) (v1 : Int64) (v3 : Int32) (v4 : Int32) (M : Mm) : Option (Int32 × Mm) := if (f_MO_nibbles v3) < 0 then (some (0, M)) else (if (gi M v0 11) = 0 then (some (0, M)) else ((ix 0 (G (gr M v0 10))).bind fun j2 => if (f_MO_few (gl M (gr M v0 10) j2)) = 0 then (some (0, M)) else ((ix 0 (G (gr M v0 10))).bind fun j5 => st ((gl M (gr M v0 10) j5).toInt32) fun x6 => (f_MO_refer G v0 1 x6 M).bind fun q7 => if q7.1 = 0 then (some (0, q7.2)) else ((f_MO_digestOf G v0 1 (1 + x6) q7.2).bind fun q9 => if (lg_cmp q9 v1) = 0 then (st (si q7.2 v0 12 (1 + x6)) fun M10 => st (si M10 v0 16 v3) fun M11 => f_MO_verify_82 G FU v0 v4 0 0 M11) else (some (0, q7.2))))))
end
section
/-! the walks of these methods, by program out of the bytecode -/
set_option maxHeartbeats 4000000 in
set_option maxRecDepth 100000 in
theorem m_PA_isNumber (l : Launch) {out : Int32} (v0 : Int64) (h : f_PA_isNumber v0 = out) : Met l y_PA_isNumber w_PA_isNumber rm_PA_isNumber (fun v _ => v = [.long v0].toArray) (PZ out) 0 0 (fun _ => False) := by
  refine Met.ofW (cc := b_PA_isNumber) (maxL := 2) (ret := (some .boolean)) (by decide) rfl ?_
  intro p e s m av below meth c s₁ B hml hv
  subst hv
  have hX : CallFix p m c b_PA_isNumber 2 s _ w_PA_isNumber "NibbleTrie$Path" := ⟨B.exec, B.bytes, hml, findClass_of_methodNamed B.named, atoms_spec (ws := w_PA_isNumber) B.pre⟩
  have hx := hX.1
  have hb := hX.2.1
  have hown := hX.2.2.2.1
  have hts := hX.2.2.2.2
  have hr := B.returns
  have hlk := B.notSynchronized
  have hl := lv_entry ([.long v0]) (n := 2) (Nat.le_of_ble_eq_true rfl)
  rw [lg_entry_eq]
  generalize (lg_sl ([.long v0]) ++ List.replicate (2 - (lg_sl ([.long v0])).length) Slot.unset).toArray = ls at hl ⊢
  have hl : lv_has ls 2 [(0, .long v0)] := hl
  unfold f_PA_isNumber at h
  refine lv_lload_n hx hb d_PA_isNumber_0 rfl (lv_at hl 0 rfl) ?_
  refine lv_lconst (v := 1) hx hb d_PA_isNumber_1 (by decide) ?_
  refine W.lcmp hx hb d_PA_isNumber_2 ?_
  refine lv_if_eq (tgt := 70) hx hb d_PA_isNumber_3 (by decide) (fun hc => ?_) (fun hc => ?_)
  · replace h := ifP h hc
    refine lv_iconst (v := 1) hx hb d_PA_isNumber_70 (by decide) ?_
    refine lv_goto (tgt := 75) hx hb d_PA_isNumber_71 (by decide) ?_
    subst h
    exact p_zret hX hr hlk (by decide) d_PA_isNumber_75
  · replace h := ifN h hc
    refine lv_lload_n hx hb d_PA_isNumber_6 rfl (lv_at hl 0 rfl) ?_
    refine lv_ldc2 (v := 16) hx hb hown (hts _ (List.mem_cons_of_mem _ t_143)) d_PA_isNumber_7 ?_
    refine W.lcmp hx hb d_PA_isNumber_10 ?_
    refine lv_if_lt (tgt := 22) hx hb d_PA_isNumber_11 (by decide) (fun hc => ?_) (fun hc => ?_)
    · replace h := ifP h hc
      refine lv_lload_n hx hb d_PA_isNumber_22 rfl (lv_at hl 0 rfl) ?_
      refine lv_ldc2 (v := 256) hx hb hown (hts _ (List.mem_cons_of_mem _ t_145)) d_PA_isNumber_23 ?_
      refine W.lcmp hx hb d_PA_isNumber_26 ?_
      refine lv_if_lt (tgt := 38) hx hb d_PA_isNumber_27 (by decide) (fun hc => ?_) (fun hc => ?_)
      · replace h := ifP h hc
        refine lv_lload_n hx hb d_PA_isNumber_38 rfl (lv_at hl 0 rfl) ?_
        refine lv_ldc2 (v := 4096) hx hb hown (hts _ (List.mem_cons_of_mem _ t_147)) d_PA_isNumber_39 ?_
        refine W.lcmp hx hb d_PA_isNumber_42 ?_
        refine lv_if_lt (tgt := 54) hx hb d_PA_isNumber_43 (by decide) (fun hc => ?_) (fun hc => ?_)
        · replace h := ifP h hc
          refine lv_lload_n hx hb d_PA_isNumber_54 rfl (lv_at hl 0 rfl) ?_
          refine lv_ldc2 (v := 65536) hx hb hown (hts _ (List.mem_cons_of_mem _ t_149)) d_PA_isNumber_55 ?_
          refine W.lcmp hx hb d_PA_isNumber_58 ?_
          refine lv_if_lt (tgt := 74) hx hb d_PA_isNumber_59 (by decide) (fun hc => ?_) (fun hc => ?_)
          · replace h := ifP h hc
            refine lv_iconst (v := 0) hx hb d_PA_isNumber_74 (by decide) ?_
            subst h
            exact p_zret hX hr hlk (by decide) d_PA_isNumber_75
          · replace h := ifN h hc
            refine lv_lload_n hx hb d_PA_isNumber_62 rfl (lv_at hl 0 rfl) ?_
            refine lv_ldc2 (v := 131071) hx hb hown (hts _ (List.mem_cons_of_mem _ t_150)) d_PA_isNumber_63 ?_
            refine W.lcmp hx hb d_PA_isNumber_66 ?_
            refine lv_if_gt (tgt := 74) hx hb d_PA_isNumber_67 (by decide) (fun hc => ?_) (fun hc => ?_)
            · replace h := ifP h hc
              refine lv_iconst (v := 0) hx hb d_PA_isNumber_74 (by decide) ?_
              subst h
              exact p_zret hX hr hlk (by decide) d_PA_isNumber_75
            · replace h := ifN h hc
              refine lv_iconst (v := 1) hx hb d_PA_isNumber_70 (by decide) ?_
              refine lv_goto (tgt := 75) hx hb d_PA_isNumber_71 (by decide) ?_
              subst h
              exact p_zret hX hr hlk (by decide) d_PA_isNumber_75
        · replace h := ifN h hc
          refine lv_lload_n hx hb d_PA_isNumber_46 rfl (lv_at hl 0 rfl) ?_
          refine lv_ldc2 (v := 8191) hx hb hown (hts _ (List.mem_cons_of_mem _ t_148)) d_PA_isNumber_47 ?_
          refine W.lcmp hx hb d_PA_isNumber_50 ?_
          refine lv_if_le (tgt := 70) hx hb d_PA_isNumber_51 (by decide) (fun hc => ?_) (fun hc => ?_)
          · replace h := ifP h hc
            refine lv_iconst (v := 1) hx hb d_PA_isNumber_70 (by decide) ?_
            refine lv_goto (tgt := 75) hx hb d_PA_isNumber_71 (by decide) ?_
            subst h
            exact p_zret hX hr hlk (by decide) d_PA_isNumber_75
          · replace h := ifN h hc
            refine lv_lload_n hx hb d_PA_isNumber_54 rfl (lv_at hl 0 rfl) ?_
            refine lv_ldc2 (v := 65536) hx hb hown (hts _ (List.mem_cons_of_mem _ t_149)) d_PA_isNumber_55 ?_
            refine W.lcmp hx hb d_PA_isNumber_58 ?_
            refine lv_if_lt (tgt := 74) hx hb d_PA_isNumber_59 (by decide) (fun hc => ?_) (fun hc => ?_)
            · replace h := ifP h hc
              refine lv_iconst (v := 0) hx hb d_PA_isNumber_74 (by decide) ?_
              subst h
              exact p_zret hX hr hlk (by decide) d_PA_isNumber_75
            · replace h := ifN h hc
              refine lv_lload_n hx hb d_PA_isNumber_62 rfl (lv_at hl 0 rfl) ?_
              refine lv_ldc2 (v := 131071) hx hb hown (hts _ (List.mem_cons_of_mem _ t_150)) d_PA_isNumber_63 ?_
              refine W.lcmp hx hb d_PA_isNumber_66 ?_
              refine lv_if_gt (tgt := 74) hx hb d_PA_isNumber_67 (by decide) (fun hc => ?_) (fun hc => ?_)
              · replace h := ifP h hc
                refine lv_iconst (v := 0) hx hb d_PA_isNumber_74 (by decide) ?_
                subst h
                exact p_zret hX hr hlk (by decide) d_PA_isNumber_75
              · replace h := ifN h hc
                refine lv_iconst (v := 1) hx hb d_PA_isNumber_70 (by decide) ?_
                refine lv_goto (tgt := 75) hx hb d_PA_isNumber_71 (by decide) ?_
                subst h
                exact p_zret hX hr hlk (by decide) d_PA_isNumber_75
      · replace h := ifN h hc
        refine lv_lload_n hx hb d_PA_isNumber_30 rfl (lv_at hl 0 rfl) ?_
        refine lv_ldc2 (v := 511) hx hb hown (hts _ (List.mem_cons_of_mem _ t_146)) d_PA_isNumber_31 ?_
        refine W.lcmp hx hb d_PA_isNumber_34 ?_
        refine lv_if_le (tgt := 70) hx hb d_PA_isNumber_35 (by decide) (fun hc => ?_) (fun hc => ?_)
        · replace h := ifP h hc
          refine lv_iconst (v := 1) hx hb d_PA_isNumber_70 (by decide) ?_
          refine lv_goto (tgt := 75) hx hb d_PA_isNumber_71 (by decide) ?_
          subst h
          exact p_zret hX hr hlk (by decide) d_PA_isNumber_75
        · replace h := ifN h hc
          refine lv_lload_n hx hb d_PA_isNumber_38 rfl (lv_at hl 0 rfl) ?_
          refine lv_ldc2 (v := 4096) hx hb hown (hts _ (List.mem_cons_of_mem _ t_147)) d_PA_isNumber_39 ?_
          refine W.lcmp hx hb d_PA_isNumber_42 ?_
          refine lv_if_lt (tgt := 54) hx hb d_PA_isNumber_43 (by decide) (fun hc => ?_) (fun hc => ?_)
          · replace h := ifP h hc
            refine lv_lload_n hx hb d_PA_isNumber_54 rfl (lv_at hl 0 rfl) ?_
            refine lv_ldc2 (v := 65536) hx hb hown (hts _ (List.mem_cons_of_mem _ t_149)) d_PA_isNumber_55 ?_
            refine W.lcmp hx hb d_PA_isNumber_58 ?_
            refine lv_if_lt (tgt := 74) hx hb d_PA_isNumber_59 (by decide) (fun hc => ?_) (fun hc => ?_)
            · replace h := ifP h hc
              refine lv_iconst (v := 0) hx hb d_PA_isNumber_74 (by decide) ?_
              subst h
              exact p_zret hX hr hlk (by decide) d_PA_isNumber_75
            · replace h := ifN h hc
              refine lv_lload_n hx hb d_PA_isNumber_62 rfl (lv_at hl 0 rfl) ?_
              refine lv_ldc2 (v := 131071) hx hb hown (hts _ (List.mem_cons_of_mem _ t_150)) d_PA_isNumber_63 ?_
              refine W.lcmp hx hb d_PA_isNumber_66 ?_
              refine lv_if_gt (tgt := 74) hx hb d_PA_isNumber_67 (by decide) (fun hc => ?_) (fun hc => ?_)
              · replace h := ifP h hc
                refine lv_iconst (v := 0) hx hb d_PA_isNumber_74 (by decide) ?_
                subst h
                exact p_zret hX hr hlk (by decide) d_PA_isNumber_75
              · replace h := ifN h hc
                refine lv_iconst (v := 1) hx hb d_PA_isNumber_70 (by decide) ?_
                refine lv_goto (tgt := 75) hx hb d_PA_isNumber_71 (by decide) ?_
                subst h
                exact p_zret hX hr hlk (by decide) d_PA_isNumber_75
          · replace h := ifN h hc
            refine lv_lload_n hx hb d_PA_isNumber_46 rfl (lv_at hl 0 rfl) ?_
            refine lv_ldc2 (v := 8191) hx hb hown (hts _ (List.mem_cons_of_mem _ t_148)) d_PA_isNumber_47 ?_
            refine W.lcmp hx hb d_PA_isNumber_50 ?_
            refine lv_if_le (tgt := 70) hx hb d_PA_isNumber_51 (by decide) (fun hc => ?_) (fun hc => ?_)
            · replace h := ifP h hc
              refine lv_iconst (v := 1) hx hb d_PA_isNumber_70 (by decide) ?_
              refine lv_goto (tgt := 75) hx hb d_PA_isNumber_71 (by decide) ?_
              subst h
              exact p_zret hX hr hlk (by decide) d_PA_isNumber_75
            · replace h := ifN h hc
              refine lv_lload_n hx hb d_PA_isNumber_54 rfl (lv_at hl 0 rfl) ?_
              refine lv_ldc2 (v := 65536) hx hb hown (hts _ (List.mem_cons_of_mem _ t_149)) d_PA_isNumber_55 ?_
              refine W.lcmp hx hb d_PA_isNumber_58 ?_
              refine lv_if_lt (tgt := 74) hx hb d_PA_isNumber_59 (by decide) (fun hc => ?_) (fun hc => ?_)
              · replace h := ifP h hc
                refine lv_iconst (v := 0) hx hb d_PA_isNumber_74 (by decide) ?_
                subst h
                exact p_zret hX hr hlk (by decide) d_PA_isNumber_75
              · replace h := ifN h hc
                refine lv_lload_n hx hb d_PA_isNumber_62 rfl (lv_at hl 0 rfl) ?_
                refine lv_ldc2 (v := 131071) hx hb hown (hts _ (List.mem_cons_of_mem _ t_150)) d_PA_isNumber_63 ?_
                refine W.lcmp hx hb d_PA_isNumber_66 ?_
                refine lv_if_gt (tgt := 74) hx hb d_PA_isNumber_67 (by decide) (fun hc => ?_) (fun hc => ?_)
                · replace h := ifP h hc
                  refine lv_iconst (v := 0) hx hb d_PA_isNumber_74 (by decide) ?_
                  subst h
                  exact p_zret hX hr hlk (by decide) d_PA_isNumber_75
                · replace h := ifN h hc
                  refine lv_iconst (v := 1) hx hb d_PA_isNumber_70 (by decide) ?_
                  refine lv_goto (tgt := 75) hx hb d_PA_isNumber_71 (by decide) ?_
                  subst h
                  exact p_zret hX hr hlk (by decide) d_PA_isNumber_75
    · replace h := ifN h hc
      refine lv_lload_n hx hb d_PA_isNumber_14 rfl (lv_at hl 0 rfl) ?_
      refine lv_ldc2 (v := 31) hx hb hown (hts _ (List.mem_cons_of_mem _ t_144)) d_PA_isNumber_15 ?_
      refine W.lcmp hx hb d_PA_isNumber_18 ?_
      refine lv_if_le (tgt := 70) hx hb d_PA_isNumber_19 (by decide) (fun hc => ?_) (fun hc => ?_)
      · replace h := ifP h hc
        refine lv_iconst (v := 1) hx hb d_PA_isNumber_70 (by decide) ?_
        refine lv_goto (tgt := 75) hx hb d_PA_isNumber_71 (by decide) ?_
        subst h
        exact p_zret hX hr hlk (by decide) d_PA_isNumber_75
      · replace h := ifN h hc
        refine lv_lload_n hx hb d_PA_isNumber_22 rfl (lv_at hl 0 rfl) ?_
        refine lv_ldc2 (v := 256) hx hb hown (hts _ (List.mem_cons_of_mem _ t_145)) d_PA_isNumber_23 ?_
        refine W.lcmp hx hb d_PA_isNumber_26 ?_
        refine lv_if_lt (tgt := 38) hx hb d_PA_isNumber_27 (by decide) (fun hc => ?_) (fun hc => ?_)
        · replace h := ifP h hc
          refine lv_lload_n hx hb d_PA_isNumber_38 rfl (lv_at hl 0 rfl) ?_
          refine lv_ldc2 (v := 4096) hx hb hown (hts _ (List.mem_cons_of_mem _ t_147)) d_PA_isNumber_39 ?_
          refine W.lcmp hx hb d_PA_isNumber_42 ?_
          refine lv_if_lt (tgt := 54) hx hb d_PA_isNumber_43 (by decide) (fun hc => ?_) (fun hc => ?_)
          · replace h := ifP h hc
            refine lv_lload_n hx hb d_PA_isNumber_54 rfl (lv_at hl 0 rfl) ?_
            refine lv_ldc2 (v := 65536) hx hb hown (hts _ (List.mem_cons_of_mem _ t_149)) d_PA_isNumber_55 ?_
            refine W.lcmp hx hb d_PA_isNumber_58 ?_
            refine lv_if_lt (tgt := 74) hx hb d_PA_isNumber_59 (by decide) (fun hc => ?_) (fun hc => ?_)
            · replace h := ifP h hc
              refine lv_iconst (v := 0) hx hb d_PA_isNumber_74 (by decide) ?_
              subst h
              exact p_zret hX hr hlk (by decide) d_PA_isNumber_75
            · replace h := ifN h hc
              refine lv_lload_n hx hb d_PA_isNumber_62 rfl (lv_at hl 0 rfl) ?_
              refine lv_ldc2 (v := 131071) hx hb hown (hts _ (List.mem_cons_of_mem _ t_150)) d_PA_isNumber_63 ?_
              refine W.lcmp hx hb d_PA_isNumber_66 ?_
              refine lv_if_gt (tgt := 74) hx hb d_PA_isNumber_67 (by decide) (fun hc => ?_) (fun hc => ?_)
              · replace h := ifP h hc
                refine lv_iconst (v := 0) hx hb d_PA_isNumber_74 (by decide) ?_
                subst h
                exact p_zret hX hr hlk (by decide) d_PA_isNumber_75
              · replace h := ifN h hc
                refine lv_iconst (v := 1) hx hb d_PA_isNumber_70 (by decide) ?_
                refine lv_goto (tgt := 75) hx hb d_PA_isNumber_71 (by decide) ?_
                subst h
                exact p_zret hX hr hlk (by decide) d_PA_isNumber_75
          · replace h := ifN h hc
            refine lv_lload_n hx hb d_PA_isNumber_46 rfl (lv_at hl 0 rfl) ?_
            refine lv_ldc2 (v := 8191) hx hb hown (hts _ (List.mem_cons_of_mem _ t_148)) d_PA_isNumber_47 ?_
            refine W.lcmp hx hb d_PA_isNumber_50 ?_
            refine lv_if_le (tgt := 70) hx hb d_PA_isNumber_51 (by decide) (fun hc => ?_) (fun hc => ?_)
            · replace h := ifP h hc
              refine lv_iconst (v := 1) hx hb d_PA_isNumber_70 (by decide) ?_
              refine lv_goto (tgt := 75) hx hb d_PA_isNumber_71 (by decide) ?_
              subst h
              exact p_zret hX hr hlk (by decide) d_PA_isNumber_75
            · replace h := ifN h hc
              refine lv_lload_n hx hb d_PA_isNumber_54 rfl (lv_at hl 0 rfl) ?_
              refine lv_ldc2 (v := 65536) hx hb hown (hts _ (List.mem_cons_of_mem _ t_149)) d_PA_isNumber_55 ?_
              refine W.lcmp hx hb d_PA_isNumber_58 ?_
              refine lv_if_lt (tgt := 74) hx hb d_PA_isNumber_59 (by decide) (fun hc => ?_) (fun hc => ?_)
              · replace h := ifP h hc
                refine lv_iconst (v := 0) hx hb d_PA_isNumber_74 (by decide) ?_
                subst h
                exact p_zret hX hr hlk (by decide) d_PA_isNumber_75
              · replace h := ifN h hc
                refine lv_lload_n hx hb d_PA_isNumber_62 rfl (lv_at hl 0 rfl) ?_
                refine lv_ldc2 (v := 131071) hx hb hown (hts _ (List.mem_cons_of_mem _ t_150)) d_PA_isNumber_63 ?_
                refine W.lcmp hx hb d_PA_isNumber_66 ?_
                refine lv_if_gt (tgt := 74) hx hb d_PA_isNumber_67 (by decide) (fun hc => ?_) (fun hc => ?_)
                · replace h := ifP h hc
                  refine lv_iconst (v := 0) hx hb d_PA_isNumber_74 (by decide) ?_
                  subst h
                  exact p_zret hX hr hlk (by decide) d_PA_isNumber_75
                · replace h := ifN h hc
                  refine lv_iconst (v := 1) hx hb d_PA_isNumber_70 (by decide) ?_
                  refine lv_goto (tgt := 75) hx hb d_PA_isNumber_71 (by decide) ?_
                  subst h
                  exact p_zret hX hr hlk (by decide) d_PA_isNumber_75
        · replace h := ifN h hc
          refine lv_lload_n hx hb d_PA_isNumber_30 rfl (lv_at hl 0 rfl) ?_
          refine lv_ldc2 (v := 511) hx hb hown (hts _ (List.mem_cons_of_mem _ t_146)) d_PA_isNumber_31 ?_
          refine W.lcmp hx hb d_PA_isNumber_34 ?_
          refine lv_if_le (tgt := 70) hx hb d_PA_isNumber_35 (by decide) (fun hc => ?_) (fun hc => ?_)
          · replace h := ifP h hc
            refine lv_iconst (v := 1) hx hb d_PA_isNumber_70 (by decide) ?_
            refine lv_goto (tgt := 75) hx hb d_PA_isNumber_71 (by decide) ?_
            subst h
            exact p_zret hX hr hlk (by decide) d_PA_isNumber_75
          · replace h := ifN h hc
            refine lv_lload_n hx hb d_PA_isNumber_38 rfl (lv_at hl 0 rfl) ?_
            refine lv_ldc2 (v := 4096) hx hb hown (hts _ (List.mem_cons_of_mem _ t_147)) d_PA_isNumber_39 ?_
            refine W.lcmp hx hb d_PA_isNumber_42 ?_
            refine lv_if_lt (tgt := 54) hx hb d_PA_isNumber_43 (by decide) (fun hc => ?_) (fun hc => ?_)
            · replace h := ifP h hc
              refine lv_lload_n hx hb d_PA_isNumber_54 rfl (lv_at hl 0 rfl) ?_
              refine lv_ldc2 (v := 65536) hx hb hown (hts _ (List.mem_cons_of_mem _ t_149)) d_PA_isNumber_55 ?_
              refine W.lcmp hx hb d_PA_isNumber_58 ?_
              refine lv_if_lt (tgt := 74) hx hb d_PA_isNumber_59 (by decide) (fun hc => ?_) (fun hc => ?_)
              · replace h := ifP h hc
                refine lv_iconst (v := 0) hx hb d_PA_isNumber_74 (by decide) ?_
                subst h
                exact p_zret hX hr hlk (by decide) d_PA_isNumber_75
              · replace h := ifN h hc
                refine lv_lload_n hx hb d_PA_isNumber_62 rfl (lv_at hl 0 rfl) ?_
                refine lv_ldc2 (v := 131071) hx hb hown (hts _ (List.mem_cons_of_mem _ t_150)) d_PA_isNumber_63 ?_
                refine W.lcmp hx hb d_PA_isNumber_66 ?_
                refine lv_if_gt (tgt := 74) hx hb d_PA_isNumber_67 (by decide) (fun hc => ?_) (fun hc => ?_)
                · replace h := ifP h hc
                  refine lv_iconst (v := 0) hx hb d_PA_isNumber_74 (by decide) ?_
                  subst h
                  exact p_zret hX hr hlk (by decide) d_PA_isNumber_75
                · replace h := ifN h hc
                  refine lv_iconst (v := 1) hx hb d_PA_isNumber_70 (by decide) ?_
                  refine lv_goto (tgt := 75) hx hb d_PA_isNumber_71 (by decide) ?_
                  subst h
                  exact p_zret hX hr hlk (by decide) d_PA_isNumber_75
            · replace h := ifN h hc
              refine lv_lload_n hx hb d_PA_isNumber_46 rfl (lv_at hl 0 rfl) ?_
              refine lv_ldc2 (v := 8191) hx hb hown (hts _ (List.mem_cons_of_mem _ t_148)) d_PA_isNumber_47 ?_
              refine W.lcmp hx hb d_PA_isNumber_50 ?_
              refine lv_if_le (tgt := 70) hx hb d_PA_isNumber_51 (by decide) (fun hc => ?_) (fun hc => ?_)
              · replace h := ifP h hc
                refine lv_iconst (v := 1) hx hb d_PA_isNumber_70 (by decide) ?_
                refine lv_goto (tgt := 75) hx hb d_PA_isNumber_71 (by decide) ?_
                subst h
                exact p_zret hX hr hlk (by decide) d_PA_isNumber_75
              · replace h := ifN h hc
                refine lv_lload_n hx hb d_PA_isNumber_54 rfl (lv_at hl 0 rfl) ?_
                refine lv_ldc2 (v := 65536) hx hb hown (hts _ (List.mem_cons_of_mem _ t_149)) d_PA_isNumber_55 ?_
                refine W.lcmp hx hb d_PA_isNumber_58 ?_
                refine lv_if_lt (tgt := 74) hx hb d_PA_isNumber_59 (by decide) (fun hc => ?_) (fun hc => ?_)
                · replace h := ifP h hc
                  refine lv_iconst (v := 0) hx hb d_PA_isNumber_74 (by decide) ?_
                  subst h
                  exact p_zret hX hr hlk (by decide) d_PA_isNumber_75
                · replace h := ifN h hc
                  refine lv_lload_n hx hb d_PA_isNumber_62 rfl (lv_at hl 0 rfl) ?_
                  refine lv_ldc2 (v := 131071) hx hb hown (hts _ (List.mem_cons_of_mem _ t_150)) d_PA_isNumber_63 ?_
                  refine W.lcmp hx hb d_PA_isNumber_66 ?_
                  refine lv_if_gt (tgt := 74) hx hb d_PA_isNumber_67 (by decide) (fun hc => ?_) (fun hc => ?_)
                  · replace h := ifP h hc
                    refine lv_iconst (v := 0) hx hb d_PA_isNumber_74 (by decide) ?_
                    subst h
                    exact p_zret hX hr hlk (by decide) d_PA_isNumber_75
                  · replace h := ifN h hc
                    refine lv_iconst (v := 1) hx hb d_PA_isNumber_70 (by decide) ?_
                    refine lv_goto (tgt := 75) hx hb d_PA_isNumber_71 (by decide) ?_
                    subst h
                    exact p_zret hX hr hlk (by decide) d_PA_isNumber_75
set_option maxHeartbeats 4000000 in
set_option maxRecDepth 100000 in
theorem m_PA_length (l : Launch) {out : Int32} (v0 : Int32) (h : f_PA_length v0 = out) : Met l y_PA_length w_PA_length rm_PA_length (fun v _ => v = [.int v0].toArray) (PI out) 0 0 (fun _ => False) := by
  refine Met.ofW (cc := b_PA_length) (maxL := 1) (ret := (some .int)) (by decide) rfl ?_
  intro p e s m av below meth c s₁ B hml hv
  subst hv
  have hX : CallFix p m c b_PA_length 1 s _ w_PA_length "NibbleTrie$Path" := ⟨B.exec, B.bytes, hml, findClass_of_methodNamed B.named, atoms_spec (ws := w_PA_length) B.pre⟩
  have hx := hX.1
  have hb := hX.2.1
  have hown := hX.2.2.2.1
  have hts := hX.2.2.2.2
  have hr := B.returns
  have hlk := B.notSynchronized
  have hl := lv_entry ([.int v0]) (n := 1) (Nat.le_of_ble_eq_true rfl)
  rw [lg_entry_eq]
  generalize (lg_sl ([.int v0]) ++ List.replicate (1 - (lg_sl ([.int v0])).length) Slot.unset).toArray = ls at hl ⊢
  have hl : lv_has ls 1 [(0, .int v0)] := hl
  unfold f_PA_length at h
  refine lv_iload_n hx hb d_PA_length_0 rfl (lv_at hl 0 rfl) ?_
  refine lv_bipush (v := 16) hx hb d_PA_length_1 (by decide) ?_
  refine lv_icmp_ge (tgt := 8) hx hb d_PA_length_3 (by decide) (fun hc => ?_) (fun hc => ?_)
  · replace h := ifP h hc
    refine lv_iload_n hx hb d_PA_length_8 rfl (lv_at hl 0 rfl) ?_
    refine lv_sipush (v := 256) hx hb d_PA_length_9 (by decide) ?_
    refine lv_icmp_ge (tgt := 17) hx hb d_PA_length_12 (by decide) (fun hc => ?_) (fun hc => ?_)
    · replace h := ifP h hc
      refine lv_iload_n hx hb d_PA_length_17 rfl (lv_at hl 0 rfl) ?_
      refine lv_sipush (v := 4096) hx hb d_PA_length_18 (by decide) ?_
      refine lv_icmp_ge (tgt := 26) hx hb d_PA_length_21 (by decide) (fun hc => ?_) (fun hc => ?_)
      · replace h := ifP h hc
        refine lv_iload_n hx hb d_PA_length_26 rfl (lv_at hl 0 rfl) ?_
        refine lv_ldc (v := 65536) hx hb hown (hts _ (List.mem_cons_of_mem _ t_169)) d_PA_length_27 ?_
        refine lv_icmp_ge (tgt := 36) hx hb d_PA_length_29 (by decide) (fun hc => ?_) (fun hc => ?_)
        · replace h := ifP h hc
          refine lv_iconst (v := 4) hx hb d_PA_length_36 (by decide) ?_
          subst h
          exact p_iret hX hr hlk d_PA_length_37
        · replace h := ifN h hc
          refine lv_iconst (v := 3) hx hb d_PA_length_32 (by decide) ?_
          refine lv_goto (tgt := 37) hx hb d_PA_length_33 (by decide) ?_
          subst h
          exact p_iret hX hr hlk d_PA_length_37
      · replace h := ifN h hc
        refine lv_iconst (v := 2) hx hb d_PA_length_24 (by decide) ?_
        subst h
        exact p_iret hX hr hlk d_PA_length_25
    · replace h := ifN h hc
      refine lv_iconst (v := 1) hx hb d_PA_length_15 (by decide) ?_
      subst h
      exact p_iret hX hr hlk d_PA_length_16
  · replace h := ifN h hc
    refine lv_iconst (v := 0) hx hb d_PA_length_6 (by decide) ?_
    subst h
    exact p_iret hX hr hlk d_PA_length_7
set_option maxHeartbeats 4000000 in
set_option maxRecDepth 100000 in
theorem m_PA_nibble (l : Launch) {out : Int32} (v0 : Int32) (v1 : Int32) (h : f_PA_nibble v0 v1 = out) : Met l y_PA_nibble w_PA_nibble rm_PA_nibble (fun v _ => v = [.int v0, .int v1].toArray) (PI out) 0 0 (fun _ => False) := by
  refine Met.ofW (cc := b_PA_nibble) (maxL := 2) (ret := (some .int)) (by decide) rfl ?_
  intro p e s m av below meth c s₁ B hml hv
  subst hv
  have hX : CallFix p m c b_PA_nibble 2 s _ w_PA_nibble "NibbleTrie$Path" := ⟨B.exec, B.bytes, hml, findClass_of_methodNamed B.named, atoms_spec (ws := w_PA_nibble) B.pre⟩
  have hx := hX.1
  have hb := hX.2.1
  have hown := hX.2.2.2.1
  have hts := hX.2.2.2.2
  have hr := B.returns
  have hlk := B.notSynchronized
  have hl := lv_entry ([.int v0, .int v1]) (n := 2) (Nat.le_of_ble_eq_true rfl)
  rw [lg_entry_eq]
  generalize (lg_sl ([.int v0, .int v1]) ++ List.replicate (2 - (lg_sl ([.int v0, .int v1])).length) Slot.unset).toArray = ls at hl ⊢
  have hl : lv_has ls 2 [(0, .int v0), (1, .int v1)] := hl
  unfold f_PA_nibble at h
  refine lv_iload_n hx hb d_PA_nibble_0 rfl (lv_at hl 0 rfl) ?_
  refine lv_iconst (v := 4) hx hb d_PA_nibble_1 (by decide) ?_
  refine lv_iload_n hx hb d_PA_nibble_2 rfl (lv_at hl 0 rfl) ?_
  refine kp_i (va_runS (As := [.int v0]) (rest := [.int 4, .int v0]) hX (m_PA_length l  v0 rfl) (cb_PA_length hts t_166 ⟨Nat.le_of_ble_eq_true rfl, Nat.le_of_ble_eq_true rfl⟩) preEq rfl rfl hl.1 rfl (lv_room (Nat.le_of_ble_eq_true rfl)) d_PA_nibble_3 ⟨Nat.zero_le _, Nat.zero_le _⟩) ?_
  refine lv_iload_n hx hb d_PA_nibble_6 rfl (lv_at hl 1 rfl) ?_
  refine lv_isub hx hb d_PA_nibble_7 ?_
  refine lv_iconst (v := 1) hx hb d_PA_nibble_8 (by decide) ?_
  refine lv_isub hx hb d_PA_nibble_9 ?_
  refine lv_imul hx hb d_PA_nibble_10 ?_
  refine lv_ishr hx hb d_PA_nibble_11 ?_
  refine lv_bipush (v := 15) hx hb d_PA_nibble_12 (by decide) ?_
  refine lv_iand hx hb d_PA_nibble_14 ?_
  subst h
  exact p_iret hX hr hlk d_PA_nibble_15
set_option maxHeartbeats 4000000 in
set_option maxRecDepth 100000 in
theorem m_PA_front (l : Launch) {out : Int32} (v0 : Int32) (v1 : Int32) (h : f_PA_front v0 v1 = out) : Met l y_PA_front w_PA_front rm_PA_front (fun v _ => v = [.int v0, .int v1].toArray) (PI out) 0 0 (fun _ => False) := by
  refine Met.ofW (cc := b_PA_front) (maxL := 2) (ret := (some .int)) (by decide) rfl ?_
  intro p e s m av below meth c s₁ B hml hv
  subst hv
  have hX : CallFix p m c b_PA_front 2 s _ w_PA_front "NibbleTrie$Path" := ⟨B.exec, B.bytes, hml, findClass_of_methodNamed B.named, atoms_spec (ws := w_PA_front) B.pre⟩
  have hx := hX.1
  have hb := hX.2.1
  have hown := hX.2.2.2.1
  have hts := hX.2.2.2.2
  have hr := B.returns
  have hlk := B.notSynchronized
  have hl := lv_entry ([.int v0, .int v1]) (n := 2) (Nat.le_of_ble_eq_true rfl)
  rw [lg_entry_eq]
  generalize (lg_sl ([.int v0, .int v1]) ++ List.replicate (2 - (lg_sl ([.int v0, .int v1])).length) Slot.unset).toArray = ls at hl ⊢
  have hl : lv_has ls 2 [(0, .int v0), (1, .int v1)] := hl
  unfold f_PA_front at h
  refine lv_iload_n hx hb d_PA_front_0 rfl (lv_at hl 0 rfl) ?_
  refine lv_iconst (v := 4) hx hb d_PA_front_1 (by decide) ?_
  refine lv_iload_n hx hb d_PA_front_2 rfl (lv_at hl 0 rfl) ?_
  refine kp_i (va_runS (As := [.int v0]) (rest := [.int 4, .int v0]) hX (m_PA_length l  v0 rfl) (cb_PA_length hts t_166 ⟨Nat.le_of_ble_eq_true rfl, Nat.le_of_ble_eq_true rfl⟩) preEq rfl rfl hl.1 rfl (lv_room (Nat.le_of_ble_eq_true rfl)) d_PA_front_3 ⟨Nat.zero_le _, Nat.zero_le _⟩) ?_
  refine lv_iload_n hx hb d_PA_front_6 rfl (lv_at hl 1 rfl) ?_
  refine lv_isub hx hb d_PA_front_7 ?_
  refine lv_imul hx hb d_PA_front_8 ?_
  refine lv_ishr hx hb d_PA_front_9 ?_
  subst h
  exact p_iret hX hr hlk d_PA_front_10
set_option maxHeartbeats 4000000 in
set_option maxRecDepth 100000 in
theorem m_PA_without (l : Launch) {out : Int32} (v0 : Int32) (v1 : Int32) (h : f_PA_without v0 v1 = out) : Met l y_PA_without w_PA_without rm_PA_without (fun v _ => v = [.int v0, .int v1].toArray) (PI out) 0 0 (fun _ => False) := by
  refine Met.ofW (cc := b_PA_without) (maxL := 3) (ret := (some .int)) (by decide) rfl ?_
  intro p e s m av below meth c s₁ B hml hv
  subst hv
  have hX : CallFix p m c b_PA_without 3 s _ w_PA_without "NibbleTrie$Path" := ⟨B.exec, B.bytes, hml, findClass_of_methodNamed B.named, atoms_spec (ws := w_PA_without) B.pre⟩
  have hx := hX.1
  have hb := hX.2.1
  have hown := hX.2.2.2.1
  have hts := hX.2.2.2.2
  have hr := B.returns
  have hlk := B.notSynchronized
  have hl := lv_entry ([.int v0, .int v1]) (n := 3) (Nat.le_of_ble_eq_true rfl)
  rw [lg_entry_eq]
  generalize (lg_sl ([.int v0, .int v1]) ++ List.replicate (3 - (lg_sl ([.int v0, .int v1])).length) Slot.unset).toArray = ls at hl ⊢
  have hl : lv_has ls 3 [(0, .int v0), (1, .int v1)] := hl
  unfold f_PA_without at h
  refine lv_iconst (v := 4) hx hb d_PA_without_0 (by decide) ?_
  refine lv_iload_n hx hb d_PA_without_1 rfl (lv_at hl 0 rfl) ?_
  refine kp_i (va_runS (As := [.int v0]) (rest := [.int 4]) hX (m_PA_length l  v0 rfl) (cb_PA_length hts t_166 ⟨Nat.le_of_ble_eq_true rfl, Nat.le_of_ble_eq_true rfl⟩) preEq rfl rfl hl.1 rfl (lv_room (Nat.le_of_ble_eq_true rfl)) d_PA_without_2 ⟨Nat.zero_le _, Nat.zero_le _⟩) ?_
  refine lv_iload_n hx hb d_PA_without_5 rfl (lv_at hl 1 rfl) ?_
  refine lv_isub hx hb d_PA_without_6 ?_
  refine lv_imul hx hb d_PA_without_7 ?_
  refine lv_topi (fun x1 ex1 => ?_)
  replace h := stA h ex1
  refine lv_istore_n (lv' := [(2, .int x1), (0, .int v0), (1, .int v1)]) hx hb d_PA_without_8 rfl hl (by decide) rfl (fun ls hl => ?_)
  refine lv_iconst (v := 1) hx hb d_PA_without_9 (by decide) ?_
  refine lv_iload_n hx hb d_PA_without_10 rfl (lv_at hl 0 rfl) ?_
  refine lv_ishl hx hb d_PA_without_11 ?_
  refine lv_iload_n hx hb d_PA_without_12 rfl (lv_at hl 1 rfl) ?_
  refine lv_iconst (v := 1) hx hb d_PA_without_13 (by decide) ?_
  refine lv_iload_n hx hb d_PA_without_14 rfl (lv_at hl 0 rfl) ?_
  refine lv_ishl hx hb d_PA_without_15 ?_
  refine lv_iconst (v := 1) hx hb d_PA_without_16 (by decide) ?_
  refine lv_isub hx hb d_PA_without_17 ?_
  refine lv_iand hx hb d_PA_without_18 ?_
  refine lv_ior hx hb d_PA_without_19 ?_
  subst h
  exact p_iret hX hr hlk d_PA_without_20
set_option maxHeartbeats 4000000 in
set_option maxRecDepth 100000 in
theorem m_PA_begins (l : Launch) {out : Int32} (v0 : Int32) (v1 : Int32) (h : f_PA_begins v0 v1 = out) : Met l y_PA_begins w_PA_begins rm_PA_begins (fun v _ => v = [.int v0, .int v1].toArray) (PZ out) 0 0 (fun _ => False) := by
  refine Met.ofW (cc := b_PA_begins) (maxL := 3) (ret := (some .boolean)) (by decide) rfl ?_
  intro p e s m av below meth c s₁ B hml hv
  subst hv
  have hX : CallFix p m c b_PA_begins 3 s _ w_PA_begins "NibbleTrie$Path" := ⟨B.exec, B.bytes, hml, findClass_of_methodNamed B.named, atoms_spec (ws := w_PA_begins) B.pre⟩
  have hx := hX.1
  have hb := hX.2.1
  have hown := hX.2.2.2.1
  have hts := hX.2.2.2.2
  have hr := B.returns
  have hlk := B.notSynchronized
  have hl := lv_entry ([.int v0, .int v1]) (n := 3) (Nat.le_of_ble_eq_true rfl)
  rw [lg_entry_eq]
  generalize (lg_sl ([.int v0, .int v1]) ++ List.replicate (3 - (lg_sl ([.int v0, .int v1])).length) Slot.unset).toArray = ls at hl ⊢
  have hl : lv_has ls 3 [(0, .int v0), (1, .int v1)] := hl
  unfold f_PA_begins at h
  refine lv_iload_n hx hb d_PA_begins_0 rfl (lv_at hl 1 rfl) ?_
  refine kp_i (va_runS (As := [.int v1]) (rest := []) hX (m_PA_length l  v1 rfl) (cb_PA_length hts t_166 ⟨Nat.le_of_ble_eq_true rfl, Nat.le_of_ble_eq_true rfl⟩) preEq rfl rfl hl.1 rfl (lv_room (Nat.le_of_ble_eq_true rfl)) d_PA_begins_1 ⟨Nat.zero_le _, Nat.zero_le _⟩) ?_
  refine lv_istore_n (lv' := [(2, .int (f_PA_length v1)), (0, .int v0), (1, .int v1)]) hx hb d_PA_begins_4 rfl hl (by decide) rfl (fun ls hl => ?_)
  refine lv_iload_n hx hb d_PA_begins_5 rfl (lv_at hl 1 rfl) ?_
  refine kp_i (va_runS (As := [.int v0]) (rest := []) hX (m_PA_length l  v0 rfl) (cb_PA_length hts t_166 ⟨Nat.le_of_ble_eq_true rfl, Nat.le_of_ble_eq_true rfl⟩) preEq rfl rfl hl.1 rfl (lv_room (Nat.le_of_ble_eq_true rfl)) d_PA_begins_6 ⟨Nat.zero_le _, Nat.zero_le _⟩) ?_
  refine lv_iload_n hx hb d_PA_begins_9 rfl (lv_at hl 0 rfl) ?_
  refine lv_icmp_lt (tgt := 26) hx hb d_PA_begins_10 (by decide) (fun hc => ?_) (fun hc => ?_)
  · replace h := ifP h hc
    refine lv_iconst (v := 0) hx hb d_PA_begins_26 (by decide) ?_
    subst h
    exact p_zret hX hr hlk (by decide) d_PA_begins_27
  · replace h := ifN h hc
    refine lv_iload_n hx hb d_PA_begins_13 rfl (lv_at hl 1 rfl) ?_
    refine lv_iload_n hx hb d_PA_begins_14 rfl (lv_at hl 0 rfl) ?_
    refine kp_i (va_runS (As := [.int v0, .int (f_PA_length v1)]) (rest := []) hX (m_PA_front l  v0 (f_PA_length v1) rfl) (cb_PA_front hts t_350 ⟨Nat.le_of_ble_eq_true rfl, Nat.le_of_ble_eq_true rfl⟩) preEq rfl rfl hl.1 rfl (lv_room (Nat.le_of_ble_eq_true rfl)) d_PA_begins_15 ⟨Nat.zero_le _, Nat.zero_le _⟩) ?_
    refine lv_iload_n hx hb d_PA_begins_18 rfl (lv_at hl 2 rfl) ?_
    refine lv_icmp_ne (tgt := 26) hx hb d_PA_begins_19 (by decide) (fun hc => ?_) (fun hc => ?_)
    · replace h := ifN h hc
      refine lv_iconst (v := 0) hx hb d_PA_begins_26 (by decide) ?_
      subst h
      exact p_zret hX hr hlk (by decide) d_PA_begins_27
    · replace h := ifP h hc
      refine lv_iconst (v := 1) hx hb d_PA_begins_22 (by decide) ?_
      refine lv_goto (tgt := 27) hx hb d_PA_begins_23 (by decide) ?_
      subst h
      exact p_zret hX hr hlk (by decide) d_PA_begins_27
set_option maxHeartbeats 4000000 in
set_option maxRecDepth 100000 in
theorem w_PA_commonLength_14 {p : Program} {l : Launch} {e : Env} {s : State} {m : MethodId} {args : Array Value} {below : List Frame} {meth : Method} {c : Code} {E : En} {K G : Nat → Nat} {L : List Nat} (hX : CallFix p m c b_PA_commonLength 4 s args w_PA_commonLength "NibbleTrie$Path") (hr : meth.sig.returnType = (some .int)) (hlk : meth.locks = false) {out : Int32} : ∀ (n : Nat) (v0 : Int32) (v1 : Int32) (v2 : Int32) (v3 : Int32) (ls : Array Slot), lv_has ls 4 [(0, .int v0), (1, .int v1), (2, .int v2), (3, .int v3)] → f_PA_commonLength_14 n v0 v1 v2 v3 = some out → W p l e rm_PA_commonLength s m args below meth c s.heap [] 0 0 (MQ below (PI out) args s 0 0 (fun _ => False)) (F0 m 14 ls []) := by
  have hx := hX.1
  have hb := hX.2.1
  have hown := hX.2.2.2.1
  have hts := hX.2.2.2.2
  intro n
  induction n with
  | zero => intro _ _ _ _ _ _ h; rw [f_PA_commonLength_14] at h; cases h
  | succ n ih =>
    intro v0 v1 v2 v3 ls hl h
    rw [f_PA_commonLength_14] at h
    refine lv_iload_n hx hb d_PA_commonLength_14 rfl (lv_at hl 3 rfl) ?_
    refine lv_iload_n hx hb d_PA_commonLength_15 rfl (lv_at hl 2 rfl) ?_
    refine lv_icmp_ge (tgt := 38) hx hb d_PA_commonLength_16 (by decide) (fun hc => ?_) (fun hc => ?_)
    · replace h := ifP h hc
      refine lv_iload_n hx hb d_PA_commonLength_38 rfl (lv_at hl 3 rfl) ?_
      obtain rfl := Option.some.inj h
      exact p_iret hX hr hlk d_PA_commonLength_39
    · replace h := ifN h hc
      refine lv_iload_n hx hb d_PA_commonLength_19 rfl (lv_at hl 0 rfl) ?_
      refine lv_iload_n hx hb d_PA_commonLength_20 rfl (lv_at hl 3 rfl) ?_
      refine kp_i (va_runS (As := [.int v0, .int v3]) (rest := []) hX (m_PA_nibble l  v0 v3 rfl) (cb_PA_nibble hts t_182 ⟨Nat.le_of_ble_eq_true rfl, Nat.le_of_ble_eq_true rfl⟩) preEq rfl rfl hl.1 rfl (lv_room (Nat.le_of_ble_eq_true rfl)) d_PA_commonLength_21 ⟨Nat.zero_le _, Nat.zero_le _⟩) ?_
      refine lv_iload_n hx hb d_PA_commonLength_24 rfl (lv_at hl 1 rfl) ?_
      refine lv_iload_n hx hb d_PA_commonLength_25 rfl (lv_at hl 3 rfl) ?_
      refine kp_i (va_runS (As := [.int v1, .int v3]) (rest := [.int (f_PA_nibble v0 v3)]) hX (m_PA_nibble l  v1 v3 rfl) (cb_PA_nibble hts t_182 ⟨Nat.le_of_ble_eq_true rfl, Nat.le_of_ble_eq_true rfl⟩) preEq rfl rfl hl.1 rfl (lv_room (Nat.le_of_ble_eq_true rfl)) d_PA_commonLength_26 ⟨Nat.zero_le _, Nat.zero_le _⟩) ?_
      refine lv_icmp_ne (tgt := 38) hx hb d_PA_commonLength_29 (by decide) (fun hc => ?_) (fun hc => ?_)
      · replace h := ifN h hc
        refine lv_iload_n hx hb d_PA_commonLength_38 rfl (lv_at hl 3 rfl) ?_
        obtain rfl := Option.some.inj h
        exact p_iret hX hr hlk d_PA_commonLength_39
      · replace h := ifP h hc
        refine lv_iinc (k := 3) (v := (v3 + 1)) (lv' := [(3, .int (v3 + 1)), (0, .int v0), (1, .int v1), (2, .int v2)]) hx hb d_PA_commonLength_32 hl rfl (by rfl) (by decide) rfl (fun ls hl => ?_)
        refine lv_goto (tgt := 14) hx hb d_PA_commonLength_35 (by decide) ?_
        exact ih v0 v1 v2 (v3 + 1) _ (lv_sub hl [1, 2, 3, 0] rfl) h
set_option maxHeartbeats 4000000 in
set_option maxRecDepth 100000 in
theorem m_PA_commonLength (l : Launch) {out : Int32} (v0 : Int32) (v1 : Int32) (h : f_PA_commonLength v0 v1 = some out) : Met l y_PA_commonLength w_PA_commonLength rm_PA_commonLength (fun v _ => v = [.int v0, .int v1].toArray) (PI out) 0 0 (fun _ => False) := by
  refine Met.ofW (cc := b_PA_commonLength) (maxL := 4) (ret := (some .int)) (by decide) rfl ?_
  intro p e s m av below meth c s₁ B hml hv
  subst hv
  have hX : CallFix p m c b_PA_commonLength 4 s _ w_PA_commonLength "NibbleTrie$Path" := ⟨B.exec, B.bytes, hml, findClass_of_methodNamed B.named, atoms_spec (ws := w_PA_commonLength) B.pre⟩
  have hx := hX.1
  have hb := hX.2.1
  have hown := hX.2.2.2.1
  have hts := hX.2.2.2.2
  have hr := B.returns
  have hlk := B.notSynchronized
  have hl := lv_entry ([.int v0, .int v1]) (n := 4) (Nat.le_of_ble_eq_true rfl)
  rw [lg_entry_eq]
  generalize (lg_sl ([.int v0, .int v1]) ++ List.replicate (4 - (lg_sl ([.int v0, .int v1])).length) Slot.unset).toArray = ls at hl ⊢
  have hl : lv_has ls 4 [(0, .int v0), (1, .int v1)] := hl
  unfold f_PA_commonLength at h
  refine lv_iload_n hx hb d_PA_commonLength_0 rfl (lv_at hl 0 rfl) ?_
  refine kp_i (va_runS (As := [.int v0]) (rest := []) hX (m_PA_length l  v0 rfl) (cb_PA_length hts t_166 ⟨Nat.le_of_ble_eq_true rfl, Nat.le_of_ble_eq_true rfl⟩) preEq rfl rfl hl.1 rfl (lv_room (Nat.le_of_ble_eq_true rfl)) d_PA_commonLength_1 ⟨Nat.zero_le _, Nat.zero_le _⟩) ?_
  refine lv_iload_n hx hb d_PA_commonLength_4 rfl (lv_at hl 1 rfl) ?_
  refine kp_i (va_runS (As := [.int v1]) (rest := [.int (f_PA_length v0)]) hX (m_PA_length l  v1 rfl) (cb_PA_length hts t_166 ⟨Nat.le_of_ble_eq_true rfl, Nat.le_of_ble_eq_true rfl⟩) preEq rfl rfl hl.1 rfl (lv_room (Nat.le_of_ble_eq_true rfl)) d_PA_commonLength_5 ⟨Nat.zero_le _, Nat.zero_le _⟩) ?_
  refine r_mmin hX t_181 hl.1 (Nat.le_of_ble_eq_true rfl) (Nat.le_of_ble_eq_true rfl) d_PA_commonLength_8 ?_
  refine lv_topi (fun x1 ex1 => ?_)
  replace h := stA h ex1
  refine lv_istore_n (lv' := [(2, .int x1), (0, .int v0), (1, .int v1)]) hx hb d_PA_commonLength_11 rfl hl (by decide) rfl (fun ls hl => ?_)
  refine lv_iconst (v := 0) hx hb d_PA_commonLength_12 (by decide) ?_
  refine lv_istore_n (lv' := [(3, .int 0), (2, .int x1), (0, .int v0), (1, .int v1)]) hx hb d_PA_commonLength_13 rfl hl (by decide) rfl (fun ls hl => ?_)
  exact w_PA_commonLength_14 hX hr hlk FU v0 v1 x1 0 _ (lv_sub hl [2, 3, 1, 0] rfl) h
set_option maxHeartbeats 4000000 in
set_option maxRecDepth 100000 in
theorem m_PA_order (l : Launch) {out : Int32} (v0 : Int32) (h : f_PA_order v0 = out) : Met l y_PA_order w_PA_order rm_PA_order (fun v _ => v = [.int v0].toArray) (PI out) 0 0 (fun _ => False) := by
  refine Met.ofW (cc := b_PA_order) (maxL := 2) (ret := (some .int)) (by decide) rfl ?_
  intro p e s m av below meth c s₁ B hml hv
  subst hv
  have hX : CallFix p m c b_PA_order 2 s _ w_PA_order "NibbleTrie$Path" := ⟨B.exec, B.bytes, hml, findClass_of_methodNamed B.named, atoms_spec (ws := w_PA_order) B.pre⟩
  have hx := hX.1
  have hb := hX.2.1
  have hown := hX.2.2.2.1
  have hts := hX.2.2.2.2
  have hr := B.returns
  have hlk := B.notSynchronized
  have hl := lv_entry ([.int v0]) (n := 2) (Nat.le_of_ble_eq_true rfl)
  rw [lg_entry_eq]
  generalize (lg_sl ([.int v0]) ++ List.replicate (2 - (lg_sl ([.int v0])).length) Slot.unset).toArray = ls at hl ⊢
  have hl : lv_has ls 2 [(0, .int v0)] := hl
  unfold f_PA_order at h
  refine lv_iload_n hx hb d_PA_order_0 rfl (lv_at hl 0 rfl) ?_
  refine kp_i (va_runS (As := [.int v0]) (rest := []) hX (m_PA_length l  v0 rfl) (cb_PA_length hts t_166 ⟨Nat.le_of_ble_eq_true rfl, Nat.le_of_ble_eq_true rfl⟩) preEq rfl rfl hl.1 rfl (lv_room (Nat.le_of_ble_eq_true rfl)) d_PA_order_1 ⟨Nat.zero_le _, Nat.zero_le _⟩) ?_
  refine lv_istore_n (lv' := [(1, .int (f_PA_length v0)), (0, .int v0)]) hx hb d_PA_order_4 rfl hl (by decide) rfl (fun ls hl => ?_)
  refine lv_iload_n hx hb d_PA_order_5 rfl (lv_at hl 1 rfl) ?_
  refine lv_iconst (v := 4) hx hb d_PA_order_6 (by decide) ?_
  refine lv_iconst (v := 4) hx hb d_PA_order_7 (by decide) ?_
  refine lv_iload_n hx hb d_PA_order_8 rfl (lv_at hl 0 rfl) ?_
  refine lv_isub hx hb d_PA_order_9 ?_
  refine lv_imul hx hb d_PA_order_10 ?_
  refine lv_ishl hx hb d_PA_order_11 ?_
  refine lv_iconst (v := 3) hx hb d_PA_order_12 (by decide) ?_
  refine lv_ishl hx hb d_PA_order_13 ?_
  refine lv_iload_n hx hb d_PA_order_14 rfl (lv_at hl 0 rfl) ?_
  refine lv_ior hx hb d_PA_order_15 ?_
  subst h
  exact p_iret hX hr hlk d_PA_order_16
end
