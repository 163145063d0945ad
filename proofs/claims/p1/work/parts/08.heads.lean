/-! each method: name, bytes, words, room, what a call of it needs -/
abbrev y_NT_put : MethodName := ⟨"NibbleTrie", "put", "(II)I"⟩
abbrev b_NT_put : ByteArray := prog_1_method_2_code
abbrev w_NT_put : List Cond := Cond.code y_NT_put b_NT_put 3 (some .int) :: tG
def rm_NT_put : Room := { frames := 31, cells := 0, slots := 0, locals := 999 }
theorem cb_NT_put {R : Room} {s : State} {args : Array Value} {own : String} {idx : Nat} {q : Cond} (hts : ∀ w ∈ q :: tG, w.before args s = true) (hl : Cond.methodLink own idx y_NT_put ∈ tG) (hR : rm_NT_put.frames + 1 ≤ R.frames ∧ 8 + (3 + 11) + rm_NT_put.locals ≤ R.locals) : CallW R s args own "NibbleTrie" idx y_NT_put b_NT_put 3 (some .int) w_NT_put rm_NT_put 0 0 2 := ⟨callB_of 2 hts (gx t_139) rfl rfl rfl (hts _ (List.mem_cons_of_mem _ t_1)) (hts _ (List.mem_cons_of_mem _ hl)) (by decide +kernel) hR, hts _ (List.mem_cons_of_mem _ t_137), hts _ (List.mem_cons_of_mem _ t_138)⟩
abbrev y_NT_get : MethodName := ⟨"NibbleTrie", "get", "(I)I"⟩
abbrev b_NT_get : ByteArray := prog_1_method_3_code
abbrev w_NT_get : List Cond := Cond.code y_NT_get b_NT_get 2 (some .int) :: tG
def rm_NT_get : Room := { frames := 2, cells := 0, slots := 0, locals := 44 }
theorem cb_NT_get {R : Room} {s : State} {args : Array Value} {own : String} {idx : Nat} {q : Cond} (hts : ∀ w ∈ q :: tG, w.before args s = true) (hl : Cond.methodLink own idx y_NT_get ∈ tG) (hR : rm_NT_get.frames + 1 ≤ R.frames ∧ 8 + (2 + 11) + rm_NT_get.locals ≤ R.locals) : CallW R s args own "NibbleTrie" idx y_NT_get b_NT_get 2 (some .int) w_NT_get rm_NT_get 0 0 1 := ⟨callB_of 1 hts (gx t_210) rfl rfl rfl (hts _ (List.mem_cons_of_mem _ t_1)) (hts _ (List.mem_cons_of_mem _ hl)) (by decide +kernel) hR, hts _ (List.mem_cons_of_mem _ t_208), hts _ (List.mem_cons_of_mem _ t_209)⟩
abbrev y_NT_size : MethodName := ⟨"NibbleTrie", "size", "()I"⟩
abbrev b_NT_size : ByteArray := prog_1_method_4_code
abbrev w_NT_size : List Cond := Cond.code y_NT_size b_NT_size 1 (some .int) :: tG
def rm_NT_size : Room := { frames := 0, cells := 0, slots := 0, locals := 0 }
theorem cb_NT_size {R : Room} {s : State} {args : Array Value} {own : String} {idx : Nat} {q : Cond} (hts : ∀ w ∈ q :: tG, w.before args s = true) (hl : Cond.methodLink own idx y_NT_size ∈ tG) (hR : rm_NT_size.frames + 1 ≤ R.frames ∧ 8 + (1 + 11) + rm_NT_size.locals ≤ R.locals) : CallW R s args own "NibbleTrie" idx y_NT_size b_NT_size 1 (some .int) w_NT_size rm_NT_size 0 0 0 := ⟨callB_of 0 hts (gx t_219) rfl rfl rfl (hts _ (List.mem_cons_of_mem _ t_1)) (hts _ (List.mem_cons_of_mem _ hl)) (by decide +kernel) hR, hts _ (List.mem_cons_of_mem _ t_217), hts _ (List.mem_cons_of_mem _ t_218)⟩
abbrev y_NT_root : MethodName := ⟨"NibbleTrie", "root", "()J"⟩
abbrev b_NT_root : ByteArray := prog_1_method_5_code
abbrev w_NT_root : List Cond := Cond.code y_NT_root b_NT_root 1 (some .long) :: tG
def rm_NT_root : Room := { frames := 39, cells := 0, slots := 0, locals := 1249 }
theorem cb_NT_root {R : Room} {s : State} {args : Array Value} {own : String} {idx : Nat} {q : Cond} (hts : ∀ w ∈ q :: tG, w.before args s = true) (hl : Cond.methodLink own idx y_NT_root ∈ tG) (hR : rm_NT_root.frames + 1 ≤ R.frames ∧ 8 + (1 + 11) + rm_NT_root.locals ≤ R.locals) : CallW R s args own "NibbleTrie" idx y_NT_root b_NT_root 1 (some .long) w_NT_root rm_NT_root 0 0 0 := ⟨callB_of 0 hts (gx t_223) rfl rfl rfl (hts _ (List.mem_cons_of_mem _ t_1)) (hts _ (List.mem_cons_of_mem _ hl)) (by decide +kernel) hR, hts _ (List.mem_cons_of_mem _ t_221), hts _ (List.mem_cons_of_mem _ t_222)⟩
abbrev y_NT_count : MethodName := ⟨"NibbleTrie", "count", "(I)I"⟩
abbrev b_NT_count : ByteArray := prog_1_method_6_code
abbrev w_NT_count : List Cond := Cond.code y_NT_count b_NT_count 2 (some .int) :: tG
def rm_NT_count : Room := { frames := 0, cells := 0, slots := 0, locals := 0 }
theorem cb_NT_count {R : Room} {s : State} {args : Array Value} {own : String} {idx : Nat} {q : Cond} (hts : ∀ w ∈ q :: tG, w.before args s = true) (hl : Cond.methodLink own idx y_NT_count ∈ tG) (hR : rm_NT_count.frames + 1 ≤ R.frames ∧ 8 + (2 + 11) + rm_NT_count.locals ≤ R.locals) : CallW R s args own "NibbleTrie" idx y_NT_count b_NT_count 2 (some .int) w_NT_count rm_NT_count 0 0 1 := ⟨callB_of 1 hts (gx t_254) rfl rfl rfl (hts _ (List.mem_cons_of_mem _ t_1)) (hts _ (List.mem_cons_of_mem _ hl)) (by decide +kernel) hR, hts _ (List.mem_cons_of_mem _ t_252), hts _ (List.mem_cons_of_mem _ t_253)⟩
abbrev y_NT_commit : MethodName := ⟨"NibbleTrie", "commit", "(I)I"⟩
abbrev b_NT_commit : ByteArray := prog_1_method_7_code
abbrev w_NT_commit : List Cond := Cond.code y_NT_commit b_NT_commit 3 (some .int) :: tG
def rm_NT_commit : Room := { frames := 6, cells := 0, slots := 0, locals := 142 }
theorem cb_NT_commit {R : Room} {s : State} {args : Array Value} {own : String} {idx : Nat} {q : Cond} (hts : ∀ w ∈ q :: tG, w.before args s = true) (hl : Cond.methodLink own idx y_NT_commit ∈ tG) (hR : rm_NT_commit.frames + 1 ≤ R.frames ∧ 8 + (3 + 11) + rm_NT_commit.locals ≤ R.locals) : CallW R s args own "NibbleTrie" idx y_NT_commit b_NT_commit 3 (some .int) w_NT_commit rm_NT_commit 0 0 1 := ⟨callB_of 1 hts (gx t_258) rfl rfl rfl (hts _ (List.mem_cons_of_mem _ t_1)) (hts _ (List.mem_cons_of_mem _ hl)) (by decide +kernel) hR, hts _ (List.mem_cons_of_mem _ t_256), hts _ (List.mem_cons_of_mem _ t_257)⟩
abbrev y_NT_crash : MethodName := ⟨"NibbleTrie", "crash", "()I"⟩
abbrev b_NT_crash : ByteArray := prog_1_method_8_code
abbrev w_NT_crash : List Cond := Cond.code y_NT_crash b_NT_crash 1 (some .int) :: tG
def rm_NT_crash : Room := { frames := 4, cells := 0, slots := 0, locals := 88 }
theorem cb_NT_crash {R : Room} {s : State} {args : Array Value} {own : String} {idx : Nat} {q : Cond} (hts : ∀ w ∈ q :: tG, w.before args s = true) (hl : Cond.methodLink own idx y_NT_crash ∈ tG) (hR : rm_NT_crash.frames + 1 ≤ R.frames ∧ 8 + (1 + 11) + rm_NT_crash.locals ≤ R.locals) : CallW R s args own "NibbleTrie" idx y_NT_crash b_NT_crash 1 (some .int) w_NT_crash rm_NT_crash 0 0 0 := ⟨callB_of 0 hts (gx t_298) rfl rfl rfl (hts _ (List.mem_cons_of_mem _ t_1)) (hts _ (List.mem_cons_of_mem _ hl)) (by decide +kernel) hR, hts _ (List.mem_cons_of_mem _ t_296), hts _ (List.mem_cons_of_mem _ t_297)⟩
abbrev y_NT_versions : MethodName := ⟨"NibbleTrie", "versions", "()I"⟩
abbrev b_NT_versions : ByteArray := prog_1_method_9_code
abbrev w_NT_versions : List Cond := Cond.code y_NT_versions b_NT_versions 1 (some .int) :: tG
def rm_NT_versions : Room := { frames := 0, cells := 0, slots := 0, locals := 0 }
theorem cb_NT_versions {R : Room} {s : State} {args : Array Value} {own : String} {idx : Nat} {q : Cond} (hts : ∀ w ∈ q :: tG, w.before args s = true) (hl : Cond.methodLink own idx y_NT_versions ∈ tG) (hR : rm_NT_versions.frames + 1 ≤ R.frames ∧ 8 + (1 + 11) + rm_NT_versions.locals ≤ R.locals) : CallW R s args own "NibbleTrie" idx y_NT_versions b_NT_versions 1 (some .int) w_NT_versions rm_NT_versions 0 0 0 := ⟨callB_of 0 hts (gx t_302) rfl rfl rfl (hts _ (List.mem_cons_of_mem _ t_1)) (hts _ (List.mem_cons_of_mem _ hl)) (by decide +kernel) hR, hts _ (List.mem_cons_of_mem _ t_300), hts _ (List.mem_cons_of_mem _ t_301)⟩
abbrev y_NT_at : MethodName := ⟨"NibbleTrie", "at", "(II)I"⟩
abbrev b_NT_at : ByteArray := prog_1_method_10_code
abbrev w_NT_at : List Cond := Cond.code y_NT_at b_NT_at 3 (some .int) :: tG
def rm_NT_at : Room := { frames := 2, cells := 0, slots := 0, locals := 44 }
theorem cb_NT_at {R : Room} {s : State} {args : Array Value} {own : String} {idx : Nat} {q : Cond} (hts : ∀ w ∈ q :: tG, w.before args s = true) (hl : Cond.methodLink own idx y_NT_at ∈ tG) (hR : rm_NT_at.frames + 1 ≤ R.frames ∧ 8 + (3 + 11) + rm_NT_at.locals ≤ R.locals) : CallW R s args own "NibbleTrie" idx y_NT_at b_NT_at 3 (some .int) w_NT_at rm_NT_at 0 0 2 := ⟨callB_of 2 hts (gx t_306) rfl rfl rfl (hts _ (List.mem_cons_of_mem _ t_1)) (hts _ (List.mem_cons_of_mem _ hl)) (by decide +kernel) hR, hts _ (List.mem_cons_of_mem _ t_304), hts _ (List.mem_cons_of_mem _ t_305)⟩
abbrev y_NT_rootAt : MethodName := ⟨"NibbleTrie", "rootAt", "(I)J"⟩
abbrev b_NT_rootAt : ByteArray := prog_1_method_11_code
abbrev w_NT_rootAt : List Cond := Cond.code y_NT_rootAt b_NT_rootAt 2 (some .long) :: tG
def rm_NT_rootAt : Room := { frames := 39, cells := 0, slots := 0, locals := 1249 }
theorem cb_NT_rootAt {R : Room} {s : State} {args : Array Value} {own : String} {idx : Nat} {q : Cond} (hts : ∀ w ∈ q :: tG, w.before args s = true) (hl : Cond.methodLink own idx y_NT_rootAt ∈ tG) (hR : rm_NT_rootAt.frames + 1 ≤ R.frames ∧ 8 + (2 + 11) + rm_NT_rootAt.locals ≤ R.locals) : CallW R s args own "NibbleTrie" idx y_NT_rootAt b_NT_rootAt 2 (some .long) w_NT_rootAt rm_NT_rootAt 0 0 1 := ⟨callB_of 1 hts (gx t_314) rfl rfl rfl (hts _ (List.mem_cons_of_mem _ t_1)) (hts _ (List.mem_cons_of_mem _ hl)) (by decide +kernel) hR, hts _ (List.mem_cons_of_mem _ t_312), hts _ (List.mem_cons_of_mem _ t_313)⟩
abbrev y_NT_stored : MethodName := ⟨"NibbleTrie", "stored", "()I"⟩
abbrev b_NT_stored : ByteArray := prog_1_method_12_code
abbrev w_NT_stored : List Cond := Cond.code y_NT_stored b_NT_stored 4 (some .int) :: tG
def rm_NT_stored : Room := { frames := 6, cells := 0, slots := 0, locals := 141 }
theorem cb_NT_stored {R : Room} {s : State} {args : Array Value} {own : String} {idx : Nat} {q : Cond} (hts : ∀ w ∈ q :: tG, w.before args s = true) (hl : Cond.methodLink own idx y_NT_stored ∈ tG) (hR : rm_NT_stored.frames + 1 ≤ R.frames ∧ 8 + (4 + 11) + rm_NT_stored.locals ≤ R.locals) : CallW R s args own "NibbleTrie" idx y_NT_stored b_NT_stored 4 (some .int) w_NT_stored rm_NT_stored 0 0 0 := ⟨callB_of 0 hts (gx t_318) rfl rfl rfl (hts _ (List.mem_cons_of_mem _ t_1)) (hts _ (List.mem_cons_of_mem _ hl)) (by decide +kernel) hR, hts _ (List.mem_cons_of_mem _ t_316), hts _ (List.mem_cons_of_mem _ t_317)⟩
abbrev y_NT_uses : MethodName := ⟨"NibbleTrie", "uses", "(J)I"⟩
abbrev b_NT_uses : ByteArray := prog_1_method_13_code
abbrev w_NT_uses : List Cond := Cond.code y_NT_uses b_NT_uses 6 (some .int) :: tG
def rm_NT_uses : Room := { frames := 41, cells := 0, slots := 0, locals := 1316 }
theorem cb_NT_uses {R : Room} {s : State} {args : Array Value} {own : String} {idx : Nat} {q : Cond} (hts : ∀ w ∈ q :: tG, w.before args s = true) (hl : Cond.methodLink own idx y_NT_uses ∈ tG) (hR : rm_NT_uses.frames + 1 ≤ R.frames ∧ 8 + (6 + 11) + rm_NT_uses.locals ≤ R.locals) : CallW R s args own "NibbleTrie" idx y_NT_uses b_NT_uses 6 (some .int) w_NT_uses rm_NT_uses 0 0 1 := ⟨callB_of 1 hts (gx t_326) rfl rfl rfl (hts _ (List.mem_cons_of_mem _ t_1)) (hts _ (List.mem_cons_of_mem _ hl)) (by decide +kernel) hR, hts _ (List.mem_cons_of_mem _ t_324), hts _ (List.mem_cons_of_mem _ t_325)⟩
abbrev y_NT_prove : MethodName := ⟨"NibbleTrie", "prove", "(II)I"⟩
abbrev b_NT_prove : ByteArray := prog_1_method_14_code
abbrev w_NT_prove : List Cond := Cond.code y_NT_prove b_NT_prove 3 (some .int) :: tG
def rm_NT_prove : Room := { frames := 40, cells := 0, slots := 0, locals := 1290 }
theorem cb_NT_prove {R : Room} {s : State} {args : Array Value} {own : String} {idx : Nat} {q : Cond} (hts : ∀ w ∈ q :: tG, w.before args s = true) (hl : Cond.methodLink own idx y_NT_prove ∈ tG) (hR : rm_NT_prove.frames + 1 ≤ R.frames ∧ 8 + (3 + 11) + rm_NT_prove.locals ≤ R.locals) : CallW R s args own "NibbleTrie" idx y_NT_prove b_NT_prove 3 (some .int) w_NT_prove rm_NT_prove 0 0 2 := ⟨callB_of 2 hts (gx t_338) rfl rfl rfl (hts _ (List.mem_cons_of_mem _ t_1)) (hts _ (List.mem_cons_of_mem _ hl)) (by decide +kernel) hR, hts _ (List.mem_cons_of_mem _ t_336), hts _ (List.mem_cons_of_mem _ t_337)⟩
abbrev y_NT_word : MethodName := ⟨"NibbleTrie", "word", "(I)J"⟩
abbrev b_NT_word : ByteArray := prog_1_method_15_code
abbrev w_NT_word : List Cond := Cond.code y_NT_word b_NT_word 2 (some .long) :: tG
def rm_NT_word : Room := { frames := 1, cells := 0, slots := 0, locals := 21 }
theorem cb_NT_word {R : Room} {s : State} {args : Array Value} {own : String} {idx : Nat} {q : Cond} (hts : ∀ w ∈ q :: tG, w.before args s = true) (hl : Cond.methodLink own idx y_NT_word ∈ tG) (hR : rm_NT_word.frames + 1 ≤ R.frames ∧ 8 + (2 + 11) + rm_NT_word.locals ≤ R.locals) : CallW R s args own "NibbleTrie" idx y_NT_word b_NT_word 2 (some .long) w_NT_word rm_NT_word 0 0 1 := ⟨callB_of 1 hts (gx t_354) rfl rfl rfl (hts _ (List.mem_cons_of_mem _ t_1)) (hts _ (List.mem_cons_of_mem _ hl)) (by decide +kernel) hR, hts _ (List.mem_cons_of_mem _ t_352), hts _ (List.mem_cons_of_mem _ t_353)⟩
abbrev y_NT_alter : MethodName := ⟨"NibbleTrie", "alter", "(IJ)Z"⟩
abbrev b_NT_alter : ByteArray := prog_1_method_16_code
abbrev w_NT_alter : List Cond := Cond.code y_NT_alter b_NT_alter 4 (some .boolean) :: tG
def rm_NT_alter : Room := { frames := 1, cells := 0, slots := 0, locals := 21 }
theorem cb_NT_alter {R : Room} {s : State} {args : Array Value} {own : String} {idx : Nat} {q : Cond} (hts : ∀ w ∈ q :: tG, w.before args s = true) (hl : Cond.methodLink own idx y_NT_alter ∈ tG) (hR : rm_NT_alter.frames + 1 ≤ R.frames ∧ 8 + (4 + 11) + rm_NT_alter.locals ≤ R.locals) : CallW R s args own "NibbleTrie" idx y_NT_alter b_NT_alter 4 (some .boolean) w_NT_alter rm_NT_alter 0 0 2 := ⟨callB_of 2 hts (gx t_362) rfl rfl rfl (hts _ (List.mem_cons_of_mem _ t_1)) (hts _ (List.mem_cons_of_mem _ hl)) (by decide +kernel) hR, hts _ (List.mem_cons_of_mem _ t_360), hts _ (List.mem_cons_of_mem _ t_361)⟩
abbrev y_NT_cut : MethodName := ⟨"NibbleTrie", "cut", "()I"⟩
abbrev b_NT_cut : ByteArray := prog_1_method_17_code
abbrev w_NT_cut : List Cond := Cond.code y_NT_cut b_NT_cut 1 (some .int) :: tG
def rm_NT_cut : Room := { frames := 0, cells := 0, slots := 0, locals := 0 }
theorem cb_NT_cut {R : Room} {s : State} {args : Array Value} {own : String} {idx : Nat} {q : Cond} (hts : ∀ w ∈ q :: tG, w.before args s = true) (hl : Cond.methodLink own idx y_NT_cut ∈ tG) (hR : rm_NT_cut.frames + 1 ≤ R.frames ∧ 8 + (1 + 11) + rm_NT_cut.locals ≤ R.locals) : CallW R s args own "NibbleTrie" idx y_NT_cut b_NT_cut 1 (some .int) w_NT_cut rm_NT_cut 0 0 0 := ⟨callB_of 0 hts (gx t_366) rfl rfl rfl (hts _ (List.mem_cons_of_mem _ t_1)) (hts _ (List.mem_cons_of_mem _ hl)) (by decide +kernel) hR, hts _ (List.mem_cons_of_mem _ t_364), hts _ (List.mem_cons_of_mem _ t_365)⟩
abbrev y_NT_verify : MethodName := ⟨"NibbleTrie", "verify", "(JII)Z"⟩
abbrev b_NT_verify : ByteArray := prog_1_method_18_code
abbrev w_NT_verify : List Cond := Cond.code y_NT_verify b_NT_verify 5 (some .boolean) :: tG
def rm_NT_verify : Room := { frames := 5, cells := 0, slots := 0, locals := 117 }
theorem cb_NT_verify {R : Room} {s : State} {args : Array Value} {own : String} {idx : Nat} {q : Cond} (hts : ∀ w ∈ q :: tG, w.before args s = true) (hl : Cond.methodLink own idx y_NT_verify ∈ tG) (hR : rm_NT_verify.frames + 1 ≤ R.frames ∧ 8 + (5 + 11) + rm_NT_verify.locals ≤ R.locals) : CallW R s args own "NibbleTrie" idx y_NT_verify b_NT_verify 5 (some .boolean) w_NT_verify rm_NT_verify 0 0 3 := ⟨callB_of 3 hts (gx t_370) rfl rfl rfl (hts _ (List.mem_cons_of_mem _ t_1)) (hts _ (List.mem_cons_of_mem _ hl)) (by decide +kernel) hR, hts _ (List.mem_cons_of_mem _ t_368), hts _ (List.mem_cons_of_mem _ t_369)⟩
abbrev y_NT_isKept : MethodName := ⟨"NibbleTrie", "isKept", "(I)Z"⟩
abbrev b_NT_isKept : ByteArray := prog_1_method_19_code
abbrev w_NT_isKept : List Cond := Cond.code y_NT_isKept b_NT_isKept 2 (some .boolean) :: tG
def rm_NT_isKept : Room := { frames := 0, cells := 0, slots := 0, locals := 0 }
theorem cb_NT_isKept {R : Room} {s : State} {args : Array Value} {own : String} {idx : Nat} {q : Cond} (hts : ∀ w ∈ q :: tG, w.before args s = true) (hl : Cond.methodLink own idx y_NT_isKept ∈ tG) (hR : rm_NT_isKept.frames + 1 ≤ R.frames ∧ 8 + (2 + 11) + rm_NT_isKept.locals ≤ R.locals) : CallW R s args own "NibbleTrie" idx y_NT_isKept b_NT_isKept 2 (some .boolean) w_NT_isKept rm_NT_isKept 0 0 1 := ⟨callB_of 1 hts (gx t_310) rfl rfl rfl (hts _ (List.mem_cons_of_mem _ t_1)) (hts _ (List.mem_cons_of_mem _ hl)) (by decide +kernel) hR, hts _ (List.mem_cons_of_mem _ t_309), hts _ (List.mem_cons_of_mem _ ts_12)⟩
abbrev y_NT_branchesToWrite : MethodName := ⟨"NibbleTrie", "branchesToWrite", "()I"⟩
abbrev b_NT_branchesToWrite : ByteArray := prog_1_method_20_code
abbrev w_NT_branchesToWrite : List Cond := Cond.code y_NT_branchesToWrite b_NT_branchesToWrite 4 (some .int) :: tG
def rm_NT_branchesToWrite : Room := { frames := 5, cells := 0, slots := 0, locals := 119 }
theorem cb_NT_branchesToWrite {R : Room} {s : State} {args : Array Value} {own : String} {idx : Nat} {q : Cond} (hts : ∀ w ∈ q :: tG, w.before args s = true) (hl : Cond.methodLink own idx y_NT_branchesToWrite ∈ tG) (hR : rm_NT_branchesToWrite.frames + 1 ≤ R.frames ∧ 8 + (4 + 11) + rm_NT_branchesToWrite.locals ≤ R.locals) : CallW R s args own "NibbleTrie" idx y_NT_branchesToWrite b_NT_branchesToWrite 4 (some .int) w_NT_branchesToWrite rm_NT_branchesToWrite 0 0 0 := ⟨callB_of 0 hts (gx t_262) rfl rfl rfl (hts _ (List.mem_cons_of_mem _ t_1)) (hts _ (List.mem_cons_of_mem _ hl)) (by decide +kernel) hR, hts _ (List.mem_cons_of_mem _ t_261), hts _ (List.mem_cons_of_mem _ ts_7)⟩
abbrev y_NT_isAmongVersions : MethodName := ⟨"NibbleTrie", "isAmongVersions", "(ILNibbleTrie$Trie;I)Z"⟩
abbrev b_NT_isAmongVersions : ByteArray := prog_1_method_21_code
abbrev w_NT_isAmongVersions : List Cond := Cond.code y_NT_isAmongVersions b_NT_isAmongVersions 5 (some .boolean) :: tG
def rm_NT_isAmongVersions : Room := { frames := 4, cells := 0, slots := 0, locals := 95 }
theorem cb_NT_isAmongVersions {R : Room} {s : State} {args : Array Value} {own : String} {idx : Nat} {q : Cond} (hts : ∀ w ∈ q :: tG, w.before args s = true) (hl : Cond.methodLink own idx y_NT_isAmongVersions ∈ tG) (hR : rm_NT_isAmongVersions.frames + 1 ≤ R.frames ∧ 8 + (5 + 11) + rm_NT_isAmongVersions.locals ≤ R.locals) : CallW R s args own "NibbleTrie" idx y_NT_isAmongVersions b_NT_isAmongVersions 5 (some .boolean) w_NT_isAmongVersions rm_NT_isAmongVersions 0 0 3 := ⟨callB_of 3 hts (gx t_274) rfl rfl rfl (hts _ (List.mem_cons_of_mem _ t_1)) (hts _ (List.mem_cons_of_mem _ hl)) (by decide +kernel) hR, hts _ (List.mem_cons_of_mem _ t_273), hts _ (List.mem_cons_of_mem _ ts_9)⟩
abbrev y_NT_isFirstOfItsKind : MethodName := ⟨"NibbleTrie", "isFirstOfItsKind", "(II)Z"⟩
abbrev b_NT_isFirstOfItsKind : ByteArray := prog_1_method_22_code
abbrev w_NT_isFirstOfItsKind : List Cond := Cond.code y_NT_isFirstOfItsKind b_NT_isFirstOfItsKind 3 (some .boolean) :: tG
def rm_NT_isFirstOfItsKind : Room := { frames := 5, cells := 0, slots := 0, locals := 119 }
theorem cb_NT_isFirstOfItsKind {R : Room} {s : State} {args : Array Value} {own : String} {idx : Nat} {q : Cond} (hts : ∀ w ∈ q :: tG, w.before args s = true) (hl : Cond.methodLink own idx y_NT_isFirstOfItsKind ∈ tG) (hR : rm_NT_isFirstOfItsKind.frames + 1 ≤ R.frames ∧ 8 + (3 + 11) + rm_NT_isFirstOfItsKind.locals ≤ R.locals) : CallW R s args own "NibbleTrie" idx y_NT_isFirstOfItsKind b_NT_isFirstOfItsKind 3 (some .boolean) w_NT_isFirstOfItsKind rm_NT_isFirstOfItsKind 0 0 2 := ⟨callB_of 2 hts (gx t_322) rfl rfl rfl (hts _ (List.mem_cons_of_mem _ t_1)) (hts _ (List.mem_cons_of_mem _ hl)) (by decide +kernel) hR, hts _ (List.mem_cons_of_mem _ t_321), hts _ (List.mem_cons_of_mem _ ts_13)⟩
abbrev y_NT_isUse : MethodName := ⟨"NibbleTrie", "isUse", "(II)Z"⟩
abbrev b_NT_isUse : ByteArray := prog_1_method_23_code
abbrev w_NT_isUse : List Cond := Cond.code y_NT_isUse b_NT_isUse 4 (some .boolean) :: tG
def rm_NT_isUse : Room := { frames := 6, cells := 0, slots := 0, locals := 141 }
theorem cb_NT_isUse {R : Room} {s : State} {args : Array Value} {own : String} {idx : Nat} {q : Cond} (hts : ∀ w ∈ q :: tG, w.before args s = true) (hl : Cond.methodLink own idx y_NT_isUse ∈ tG) (hR : rm_NT_isUse.frames + 1 ≤ R.frames ∧ 8 + (4 + 11) + rm_NT_isUse.locals ≤ R.locals) : CallW R s args own "NibbleTrie" idx y_NT_isUse b_NT_isUse 4 (some .boolean) w_NT_isUse rm_NT_isUse 0 0 2 := ⟨callB_of 2 hts (gx t_330) rfl rfl rfl (hts _ (List.mem_cons_of_mem _ t_1)) (hts _ (List.mem_cons_of_mem _ hl)) (by decide +kernel) hR, hts _ (List.mem_cons_of_mem _ t_329), hts _ (List.mem_cons_of_mem _ ts_14)⟩
abbrev y_NT_keepWorking : MethodName := ⟨"NibbleTrie", "keepWorking", "()V"⟩
abbrev b_NT_keepWorking : ByteArray := prog_1_method_24_code
abbrev w_NT_keepWorking : List Cond := Cond.code y_NT_keepWorking b_NT_keepWorking 4 none :: tG
def rm_NT_keepWorking : Room := { frames := 3, cells := 0, slots := 0, locals := 68 }
theorem cb_NT_keepWorking {R : Room} {s : State} {args : Array Value} {own : String} {idx : Nat} {q : Cond} (hts : ∀ w ∈ q :: tG, w.before args s = true) (hl : Cond.methodLink own idx y_NT_keepWorking ∈ tG) (hR : rm_NT_keepWorking.frames + 1 ≤ R.frames ∧ 8 + (4 + 11) + rm_NT_keepWorking.locals ≤ R.locals) : CallW R s args own "NibbleTrie" idx y_NT_keepWorking b_NT_keepWorking 4 none w_NT_keepWorking rm_NT_keepWorking 0 0 0 := ⟨callB_of 0 hts (gx t_294) rfl rfl rfl (hts _ (List.mem_cons_of_mem _ t_1)) (hts _ (List.mem_cons_of_mem _ hl)) (by decide +kernel) hR, hts _ (List.mem_cons_of_mem _ t_293), hts _ (List.mem_cons_of_mem _ ts_11)⟩
abbrev y_NT_goDown : MethodName := ⟨"NibbleTrie", "goDown", "()V"⟩
abbrev b_NT_goDown : ByteArray := prog_1_method_25_code
abbrev w_NT_goDown : List Cond := Cond.code y_NT_goDown b_NT_goDown 1 none :: tG
def rm_NT_goDown : Room := { frames := 3, cells := 0, slots := 0, locals := 68 }
theorem cb_NT_goDown {R : Room} {s : State} {args : Array Value} {own : String} {idx : Nat} {q : Cond} (hts : ∀ w ∈ q :: tG, w.before args s = true) (hl : Cond.methodLink own idx y_NT_goDown ∈ tG) (hR : rm_NT_goDown.frames + 1 ≤ R.frames ∧ 8 + (1 + 11) + rm_NT_goDown.locals ≤ R.locals) : CallW R s args own "NibbleTrie" idx y_NT_goDown b_NT_goDown 1 none w_NT_goDown rm_NT_goDown 0 0 0 := ⟨callB_of 0 hts (gx t_278) rfl rfl rfl (hts _ (List.mem_cons_of_mem _ t_1)) (hts _ (List.mem_cons_of_mem _ hl)) (by decide +kernel) hR, hts _ (List.mem_cons_of_mem _ t_277), hts _ (List.mem_cons_of_mem _ ts_10)⟩
abbrev y_NT_digest : MethodName := ⟨"NibbleTrie", "digest", "([JII)J"⟩
abbrev b_NT_digest : ByteArray := prog_1_method_26_code
abbrev w_NT_digest : List Cond := Cond.code y_NT_digest b_NT_digest 6 (some .long) :: tG
def rm_NT_digest : Room := { frames := 0, cells := 0, slots := 0, locals := 0 }
theorem cb_NT_digest {R : Room} {s : State} {args : Array Value} {own : String} {idx : Nat} {q : Cond} (hts : ∀ w ∈ q :: tG, w.before args s = true) (hl : Cond.methodLink own idx y_NT_digest ∈ tG) (hR : rm_NT_digest.frames + 1 ≤ R.frames ∧ 8 + (6 + 11) + rm_NT_digest.locals ≤ R.locals) : CallB R s args own idx y_NT_digest b_NT_digest 6 (some .long) w_NT_digest rm_NT_digest 0 0 3 ∧ (Cond.static y_NT_digest).before args s = true := ⟨callB_of 3 hts (gx t_246) rfl rfl rfl (hts _ (List.mem_cons_of_mem _ t_1)) (hts _ (List.mem_cons_of_mem _ hl)) (by decide +kernel) hR, hts _ (List.mem_cons_of_mem _ t_245)⟩
theorem cn_NT_digest {R : Room} {s : State} {args : Array Value} {own : String} {idx : Nat} {q : Cond} (hts : ∀ w ∈ q :: tG, w.before args s = true) (hl : va_Nw (.methodLinkNest own idx y_NT_digest "NibbleTrie") s) (hR : rm_NT_digest.frames + 1 ≤ R.frames ∧ 8 + (6 + 11) + rm_NT_digest.locals ≤ R.locals) : va_CN R s args own idx y_NT_digest "NibbleTrie" b_NT_digest 6 (some .long) w_NT_digest rm_NT_digest 0 0 3 ∧ (Cond.static y_NT_digest).before args s = true ∧ True := ⟨va_cnB 3 hts (gx t_246) rfl rfl rfl hl (hts _ (List.mem_cons_of_mem _ t_1)) (by decide +kernel) hR, hts _ (List.mem_cons_of_mem _ t_245), trivial⟩
abbrev y_MO_nibbles : MethodName := ⟨"NibbleTrieModel", "nibbles", "(I)I"⟩
abbrev b_MO_nibbles : ByteArray := prog_7_method_2_code
abbrev w_MO_nibbles : List Cond := Cond.code y_MO_nibbles b_MO_nibbles 1 (some .int) :: tG
def rm_MO_nibbles : Room := { frames := 0, cells := 0, slots := 0, locals := 0 }
theorem cb_MO_nibbles {R : Room} {s : State} {args : Array Value} {own : String} {idx : Nat} {q : Cond} (hts : ∀ w ∈ q :: tG, w.before args s = true) (hl : Cond.methodLink own idx y_MO_nibbles ∈ tG) (hR : rm_MO_nibbles.frames + 1 ≤ R.frames ∧ 8 + (1 + 11) + rm_MO_nibbles.locals ≤ R.locals) : CallB R s args own idx y_MO_nibbles b_MO_nibbles 1 (some .int) w_MO_nibbles rm_MO_nibbles 0 0 1 ∧ (Cond.static y_MO_nibbles).before args s = true := ⟨callB_of 1 hts (gx t_470) rfl rfl rfl (hts _ (List.mem_cons_of_mem _ t_6)) (hts _ (List.mem_cons_of_mem _ hl)) (by decide +kernel) hR, hts _ (List.mem_cons_of_mem _ t_469)⟩
abbrev y_MO_begins : MethodName := ⟨"NibbleTrieModel", "begins", "(II)Z"⟩
abbrev b_MO_begins : ByteArray := prog_7_method_3_code
abbrev w_MO_begins : List Cond := Cond.code y_MO_begins b_MO_begins 3 (some .boolean) :: tG
def rm_MO_begins : Room := { frames := 1, cells := 0, slots := 0, locals := 20 }
theorem cb_MO_begins {R : Room} {s : State} {args : Array Value} {own : String} {idx : Nat} {q : Cond} (hts : ∀ w ∈ q :: tG, w.before args s = true) (hl : Cond.methodLink own idx y_MO_begins ∈ tG) (hR : rm_MO_begins.frames + 1 ≤ R.frames ∧ 8 + (3 + 11) + rm_MO_begins.locals ≤ R.locals) : CallB R s args own idx y_MO_begins b_MO_begins 3 (some .boolean) w_MO_begins rm_MO_begins 0 0 2 ∧ (Cond.static y_MO_begins).before args s = true := ⟨callB_of 2 hts (gx t_511) rfl rfl rfl (hts _ (List.mem_cons_of_mem _ t_6)) (hts _ (List.mem_cons_of_mem _ hl)) (by decide +kernel) hR, hts _ (List.mem_cons_of_mem _ t_510)⟩
abbrev y_MO_behind : MethodName := ⟨"NibbleTrieModel", "behind", "(II)I"⟩
abbrev b_MO_behind : ByteArray := prog_7_method_4_code
abbrev w_MO_behind : List Cond := Cond.code y_MO_behind b_MO_behind 3 (some .int) :: tG
def rm_MO_behind : Room := { frames := 1, cells := 0, slots := 0, locals := 20 }
theorem cb_MO_behind {R : Room} {s : State} {args : Array Value} {own : String} {idx : Nat} {q : Cond} (hts : ∀ w ∈ q :: tG, w.before args s = true) (hl : Cond.methodLink own idx y_MO_behind ∈ tG) (hR : rm_MO_behind.frames + 1 ≤ R.frames ∧ 8 + (3 + 11) + rm_MO_behind.locals ≤ R.locals) : CallB R s args own idx y_MO_behind b_MO_behind 3 (some .int) w_MO_behind rm_MO_behind 0 0 2 ∧ (Cond.static y_MO_behind).before args s = true := ⟨callB_of 2 hts (gx t_535) rfl rfl rfl (hts _ (List.mem_cons_of_mem _ t_6)) (hts _ (List.mem_cons_of_mem _ hl)) (by decide +kernel) hR, hts _ (List.mem_cons_of_mem _ t_534)⟩
abbrev y_MO_find : MethodName := ⟨"NibbleTrieModel", "find", "(II)I"⟩
abbrev b_MO_find : ByteArray := prog_7_method_5_code
abbrev w_MO_find : List Cond := Cond.code y_MO_find b_MO_find 4 (some .int) :: tG
def rm_MO_find : Room := { frames := 0, cells := 0, slots := 0, locals := 0 }
theorem cb_MO_find {R : Room} {s : State} {args : Array Value} {own : String} {idx : Nat} {q : Cond} (hts : ∀ w ∈ q :: tG, w.before args s = true) (hl : Cond.methodLink own idx y_MO_find ∈ tG) (hR : rm_MO_find.frames + 1 ≤ R.frames ∧ 8 + (4 + 11) + rm_MO_find.locals ≤ R.locals) : CallW R s args own "NibbleTrieModel" idx y_MO_find b_MO_find 4 (some .int) w_MO_find rm_MO_find 0 0 2 := ⟨callB_of 2 hts (gx t_476) rfl rfl rfl (hts _ (List.mem_cons_of_mem _ t_6)) (hts _ (List.mem_cons_of_mem _ hl)) (by decide +kernel) hR, hts _ (List.mem_cons_of_mem _ t_475), hts _ (List.mem_cons_of_mem _ ts_21)⟩
abbrev y_MO_copy : MethodName := ⟨"NibbleTrieModel", "copy", "(II)V"⟩
abbrev b_MO_copy : ByteArray := prog_7_method_6_code
abbrev w_MO_copy : List Cond := Cond.code y_MO_copy b_MO_copy 4 none :: tG
def rm_MO_copy : Room := { frames := 0, cells := 0, slots := 0, locals := 0 }
theorem cb_MO_copy {R : Room} {s : State} {args : Array Value} {own : String} {idx : Nat} {q : Cond} (hts : ∀ w ∈ q :: tG, w.before args s = true) (hl : Cond.methodLink own idx y_MO_copy ∈ tG) (hR : rm_MO_copy.frames + 1 ≤ R.frames ∧ 8 + (4 + 11) + rm_MO_copy.locals ≤ R.locals) : CallW R s args own "NibbleTrieModel" idx y_MO_copy b_MO_copy 4 none w_MO_copy rm_MO_copy 0 0 2 := ⟨callB_of 2 hts (gx t_571) rfl rfl rfl (hts _ (List.mem_cons_of_mem _ t_6)) (hts _ (List.mem_cons_of_mem _ hl)) (by decide +kernel) hR, hts _ (List.mem_cons_of_mem _ t_570), hts _ (List.mem_cons_of_mem _ ts_37)⟩
abbrev y_MO_put : MethodName := ⟨"NibbleTrieModel", "put", "(II)I"⟩
abbrev b_MO_put : ByteArray := prog_7_method_7_code
abbrev w_MO_put : List Cond := Cond.code y_MO_put b_MO_put 5 (some .int) :: tG
def rm_MO_put : Room := { frames := 1, cells := 0, slots := 0, locals := 23 }
theorem cb_MO_put {R : Room} {s : State} {args : Array Value} {own : String} {idx : Nat} {q : Cond} (hts : ∀ w ∈ q :: tG, w.before args s = true) (hl : Cond.methodLink own idx y_MO_put ∈ tG) (hR : rm_MO_put.frames + 1 ≤ R.frames ∧ 8 + (5 + 11) + rm_MO_put.locals ≤ R.locals) : CallW R s args own "NibbleTrieModel" idx y_MO_put b_MO_put 5 (some .int) w_MO_put rm_MO_put 0 0 2 := ⟨callB_of 2 hts (gx t_467) rfl rfl rfl (hts _ (List.mem_cons_of_mem _ t_6)) (hts _ (List.mem_cons_of_mem _ hl)) (by decide +kernel) hR, hts _ (List.mem_cons_of_mem _ t_465), hts _ (List.mem_cons_of_mem _ t_466)⟩
abbrev y_MO_valueIn : MethodName := ⟨"NibbleTrieModel", "valueIn", "(II)I"⟩
abbrev b_MO_valueIn : ByteArray := prog_7_method_8_code
abbrev w_MO_valueIn : List Cond := Cond.code y_MO_valueIn b_MO_valueIn 4 (some .int) :: tG
def rm_MO_valueIn : Room := { frames := 1, cells := 0, slots := 0, locals := 23 }
theorem cb_MO_valueIn {R : Room} {s : State} {args : Array Value} {own : String} {idx : Nat} {q : Cond} (hts : ∀ w ∈ q :: tG, w.before args s = true) (hl : Cond.methodLink own idx y_MO_valueIn ∈ tG) (hR : rm_MO_valueIn.frames + 1 ≤ R.frames ∧ 8 + (4 + 11) + rm_MO_valueIn.locals ≤ R.locals) : CallW R s args own "NibbleTrieModel" idx y_MO_valueIn b_MO_valueIn 4 (some .int) w_MO_valueIn rm_MO_valueIn 0 0 2 := ⟨callB_of 2 hts (gx t_484) rfl rfl rfl (hts _ (List.mem_cons_of_mem _ t_6)) (hts _ (List.mem_cons_of_mem _ hl)) (by decide +kernel) hR, hts _ (List.mem_cons_of_mem _ t_483), hts _ (List.mem_cons_of_mem _ ts_22)⟩
abbrev y_MO_get : MethodName := ⟨"NibbleTrieModel", "get", "(I)I"⟩
abbrev b_MO_get : ByteArray := prog_7_method_9_code
abbrev w_MO_get : List Cond := Cond.code y_MO_get b_MO_get 2 (some .int) :: tG
def rm_MO_get : Room := { frames := 2, cells := 0, slots := 0, locals := 46 }
theorem cb_MO_get {R : Room} {s : State} {args : Array Value} {own : String} {idx : Nat} {q : Cond} (hts : ∀ w ∈ q :: tG, w.before args s = true) (hl : Cond.methodLink own idx y_MO_get ∈ tG) (hR : rm_MO_get.frames + 1 ≤ R.frames ∧ 8 + (2 + 11) + rm_MO_get.locals ≤ R.locals) : CallW R s args own "NibbleTrieModel" idx y_MO_get b_MO_get 2 (some .int) w_MO_get rm_MO_get 0 0 1 := ⟨callB_of 1 hts (gx t_480) rfl rfl rfl (hts _ (List.mem_cons_of_mem _ t_6)) (hts _ (List.mem_cons_of_mem _ hl)) (by decide +kernel) hR, hts _ (List.mem_cons_of_mem _ t_478), hts _ (List.mem_cons_of_mem _ t_479)⟩
abbrev y_MO_size : MethodName := ⟨"NibbleTrieModel", "size", "()I"⟩
abbrev b_MO_size : ByteArray := prog_7_method_10_code
abbrev w_MO_size : List Cond := Cond.code y_MO_size b_MO_size 1 (some .int) :: tG
def rm_MO_size : Room := { frames := 0, cells := 0, slots := 0, locals := 0 }
theorem cb_MO_size {R : Room} {s : State} {args : Array Value} {own : String} {idx : Nat} {q : Cond} (hts : ∀ w ∈ q :: tG, w.before args s = true) (hl : Cond.methodLink own idx y_MO_size ∈ tG) (hR : rm_MO_size.frames + 1 ≤ R.frames ∧ 8 + (1 + 11) + rm_MO_size.locals ≤ R.locals) : CallW R s args own "NibbleTrieModel" idx y_MO_size b_MO_size 1 (some .int) w_MO_size rm_MO_size 0 0 0 := ⟨callB_of 0 hts (gx t_488) rfl rfl rfl (hts _ (List.mem_cons_of_mem _ t_6)) (hts _ (List.mem_cons_of_mem _ hl)) (by decide +kernel) hR, hts _ (List.mem_cons_of_mem _ t_486), hts _ (List.mem_cons_of_mem _ t_487)⟩
abbrev y_MO_members : MethodName := ⟨"NibbleTrieModel", "members", "(II)I"⟩
abbrev b_MO_members : ByteArray := prog_7_method_11_code
abbrev w_MO_members : List Cond := Cond.code y_MO_members b_MO_members 5 (some .int) :: tG
def rm_MO_members : Room := { frames := 2, cells := 0, slots := 0, locals := 42 }
theorem cb_MO_members {R : Room} {s : State} {args : Array Value} {own : String} {idx : Nat} {q : Cond} (hts : ∀ w ∈ q :: tG, w.before args s = true) (hl : Cond.methodLink own idx y_MO_members ∈ tG) (hR : rm_MO_members.frames + 1 ≤ R.frames ∧ 8 + (5 + 11) + rm_MO_members.locals ≤ R.locals) : CallW R s args own "NibbleTrieModel" idx y_MO_members b_MO_members 5 (some .int) w_MO_members rm_MO_members 0 0 2 := ⟨callB_of 2 hts (gx t_508) rfl rfl rfl (hts _ (List.mem_cons_of_mem _ t_6)) (hts _ (List.mem_cons_of_mem _ hl)) (by decide +kernel) hR, hts _ (List.mem_cons_of_mem _ t_507), hts _ (List.mem_cons_of_mem _ ts_26)⟩
abbrev y_MO_member : MethodName := ⟨"NibbleTrieModel", "member", "(II)I"⟩
abbrev b_MO_member : ByteArray := prog_7_method_12_code
abbrev w_MO_member : List Cond := Cond.code y_MO_member b_MO_member 4 (some .int) :: tG
def rm_MO_member : Room := { frames := 2, cells := 0, slots := 0, locals := 42 }
theorem cb_MO_member {R : Room} {s : State} {args : Array Value} {own : String} {idx : Nat} {q : Cond} (hts : ∀ w ∈ q :: tG, w.before args s = true) (hl : Cond.methodLink own idx y_MO_member ∈ tG) (hR : rm_MO_member.frames + 1 ≤ R.frames ∧ 8 + (4 + 11) + rm_MO_member.locals ≤ R.locals) : CallW R s args own "NibbleTrieModel" idx y_MO_member b_MO_member 4 (some .int) w_MO_member rm_MO_member 0 0 2 := ⟨callB_of 2 hts (gx t_519) rfl rfl rfl (hts _ (List.mem_cons_of_mem _ t_6)) (hts _ (List.mem_cons_of_mem _ hl)) (by decide +kernel) hR, hts _ (List.mem_cons_of_mem _ t_518), hts _ (List.mem_cons_of_mem _ ts_28)⟩
abbrev y_MO_common : MethodName := ⟨"NibbleTrieModel", "common", "(II)I"⟩
abbrev b_MO_common : ByteArray := prog_7_method_13_code
abbrev w_MO_common : List Cond := Cond.code y_MO_common b_MO_common 9 (some .int) :: tG
def rm_MO_common : Room := { frames := 3, cells := 0, slots := 0, locals := 66 }
theorem cb_MO_common {R : Room} {s : State} {args : Array Value} {own : String} {idx : Nat} {q : Cond} (hts : ∀ w ∈ q :: tG, w.before args s = true) (hl : Cond.methodLink own idx y_MO_common ∈ tG) (hR : rm_MO_common.frames + 1 ≤ R.frames ∧ 8 + (9 + 11) + rm_MO_common.locals ≤ R.locals) : CallW R s args own "NibbleTrieModel" idx y_MO_common b_MO_common 9 (some .int) w_MO_common rm_MO_common 0 0 2 := ⟨callB_of 2 hts (gx t_515) rfl rfl rfl (hts _ (List.mem_cons_of_mem _ t_6)) (hts _ (List.mem_cons_of_mem _ hl)) (by decide +kernel) hR, hts _ (List.mem_cons_of_mem _ t_514), hts _ (List.mem_cons_of_mem _ ts_27)⟩
abbrev y_MO_isBranch : MethodName := ⟨"NibbleTrieModel", "isBranch", "(II)Z"⟩
abbrev b_MO_isBranch : ByteArray := prog_7_method_14_code
abbrev w_MO_isBranch : List Cond := Cond.code y_MO_isBranch b_MO_isBranch 4 (some .boolean) :: tG
def rm_MO_isBranch : Room := { frames := 4, cells := 0, slots := 0, locals := 94 }
theorem cb_MO_isBranch {R : Room} {s : State} {args : Array Value} {own : String} {idx : Nat} {q : Cond} (hts : ∀ w ∈ q :: tG, w.before args s = true) (hl : Cond.methodLink own idx y_MO_isBranch ∈ tG) (hR : rm_MO_isBranch.frames + 1 ≤ R.frames ∧ 8 + (4 + 11) + rm_MO_isBranch.locals ≤ R.locals) : CallW R s args own "NibbleTrieModel" idx y_MO_isBranch b_MO_isBranch 4 (some .boolean) w_MO_isBranch rm_MO_isBranch 0 0 2 := ⟨callB_of 2 hts (gx t_504) rfl rfl rfl (hts _ (List.mem_cons_of_mem _ t_6)) (hts _ (List.mem_cons_of_mem _ hl)) (by decide +kernel) hR, hts _ (List.mem_cons_of_mem _ t_503), hts _ (List.mem_cons_of_mem _ ts_25)⟩
abbrev y_MO_place : MethodName := ⟨"NibbleTrieModel", "place", "(II)I"⟩
abbrev b_MO_place : ByteArray := prog_7_method_15_code
abbrev w_MO_place : List Cond := Cond.code y_MO_place b_MO_place 4 (some .int) :: tG
def rm_MO_place : Room := { frames := 0, cells := 0, slots := 0, locals := 0 }
theorem cb_MO_place {R : Room} {s : State} {args : Array Value} {own : String} {idx : Nat} {q : Cond} (hts : ∀ w ∈ q :: tG, w.before args s = true) (hl : Cond.methodLink own idx y_MO_place ∈ tG) (hR : rm_MO_place.frames + 1 ≤ R.frames ∧ 8 + (4 + 11) + rm_MO_place.locals ≤ R.locals) : CallW R s args own "NibbleTrieModel" idx y_MO_place b_MO_place 4 (some .int) w_MO_place rm_MO_place 0 0 2 := ⟨callB_of 2 hts (gx t_500) rfl rfl rfl (hts _ (List.mem_cons_of_mem _ t_6)) (hts _ (List.mem_cons_of_mem _ hl)) (by decide +kernel) hR, hts _ (List.mem_cons_of_mem _ t_499), hts _ (List.mem_cons_of_mem _ ts_24)⟩
abbrev y_MO_say : MethodName := ⟨"NibbleTrieModel", "say", "(J)V"⟩
abbrev b_MO_say : ByteArray := prog_7_method_16_code
abbrev w_MO_say : List Cond := Cond.code y_MO_say b_MO_say 3 none :: tG
def rm_MO_say : Room := { frames := 0, cells := 0, slots := 0, locals := 0 }
theorem cb_MO_say {R : Room} {s : State} {args : Array Value} {own : String} {idx : Nat} {q : Cond} (hts : ∀ w ∈ q :: tG, w.before args s = true) (hl : Cond.methodLink own idx y_MO_say ∈ tG) (hR : rm_MO_say.frames + 1 ≤ R.frames ∧ 8 + (3 + 11) + rm_MO_say.locals ≤ R.locals) : CallW R s args own "NibbleTrieModel" idx y_MO_say b_MO_say 3 none w_MO_say rm_MO_say 0 0 1 := ⟨callB_of 1 hts (gx t_531) rfl rfl rfl (hts _ (List.mem_cons_of_mem _ t_6)) (hts _ (List.mem_cons_of_mem _ hl)) (by decide +kernel) hR, hts _ (List.mem_cons_of_mem _ t_530), hts _ (List.mem_cons_of_mem _ ts_31)⟩
abbrev y_MO_reference : MethodName := ⟨"NibbleTrieModel", "reference", "(IIZ)V"⟩
abbrev b_MO_reference : ByteArray := prog_7_method_17_code
abbrev w_MO_reference : List Cond := Cond.code y_MO_reference b_MO_reference 6 none :: tG
def rm_MO_reference : Room := { frames := 4, cells := 0, slots := 0, locals := 94 }
theorem cb_MO_reference {R : Room} {s : State} {args : Array Value} {own : String} {idx : Nat} {q : Cond} (hts : ∀ w ∈ q :: tG, w.before args s = true) (hl : Cond.methodLink own idx y_MO_reference ∈ tG) (hR : rm_MO_reference.frames + 1 ≤ R.frames ∧ 8 + (6 + 11) + rm_MO_reference.locals ≤ R.locals) : CallW R s args own "NibbleTrieModel" idx y_MO_reference b_MO_reference 6 none w_MO_reference rm_MO_reference 0 0 3 := ⟨callB_of 3 hts (gx t_527) rfl rfl rfl (hts _ (List.mem_cons_of_mem _ t_6)) (hts _ (List.mem_cons_of_mem _ hl)) (by decide +kernel) hR, hts _ (List.mem_cons_of_mem _ t_526), hts _ (List.mem_cons_of_mem _ ts_30)⟩
abbrev y_MO_encode : MethodName := ⟨"NibbleTrieModel", "encode", "(II)V"⟩
abbrev b_MO_encode : ByteArray := prog_7_method_18_code
abbrev w_MO_encode : List Cond := Cond.code y_MO_encode b_MO_encode 4 none :: tG
def rm_MO_encode : Room := { frames := 5, cells := 0, slots := 0, locals := 119 }
theorem cb_MO_encode {R : Room} {s : State} {args : Array Value} {own : String} {idx : Nat} {q : Cond} (hts : ∀ w ∈ q :: tG, w.before args s = true) (hl : Cond.methodLink own idx y_MO_encode ∈ tG) (hR : rm_MO_encode.frames + 1 ≤ R.frames ∧ 8 + (4 + 11) + rm_MO_encode.locals ≤ R.locals) : CallW R s args own "NibbleTrieModel" idx y_MO_encode b_MO_encode 4 none w_MO_encode rm_MO_encode 0 0 2 := ⟨callB_of 2 hts (gx t_523) rfl rfl rfl (hts _ (List.mem_cons_of_mem _ t_6)) (hts _ (List.mem_cons_of_mem _ hl)) (by decide +kernel) hR, hts _ (List.mem_cons_of_mem _ t_522), hts _ (List.mem_cons_of_mem _ ts_29)⟩
abbrev y_MO_mixed : MethodName := ⟨"NibbleTrieModel", "mixed", "(JJ)J"⟩
abbrev b_MO_mixed : ByteArray := prog_7_method_19_code
abbrev w_MO_mixed : List Cond := Cond.code y_MO_mixed b_MO_mixed 6 (some .long) :: tG
def rm_MO_mixed : Room := { frames := 0, cells := 0, slots := 0, locals := 0 }
theorem cb_MO_mixed {R : Room} {s : State} {args : Array Value} {own : String} {idx : Nat} {q : Cond} (hts : ∀ w ∈ q :: tG, w.before args s = true) (hl : Cond.methodLink own idx y_MO_mixed ∈ tG) (hR : rm_MO_mixed.frames + 1 ≤ R.frames ∧ 8 + (6 + 11) + rm_MO_mixed.locals ≤ R.locals) : CallB R s args own idx y_MO_mixed b_MO_mixed 6 (some .long) w_MO_mixed rm_MO_mixed 0 0 2 ∧ (Cond.static y_MO_mixed).before args s = true := ⟨callB_of 2 hts (gx t_542) rfl rfl rfl (hts _ (List.mem_cons_of_mem _ t_6)) (hts _ (List.mem_cons_of_mem _ hl)) (by decide +kernel) hR, hts _ (List.mem_cons_of_mem _ t_541)⟩
abbrev y_MO_digestOfWords : MethodName := ⟨"NibbleTrieModel", "digestOfWords", "()J"⟩
abbrev b_MO_digestOfWords : ByteArray := prog_7_method_20_code
abbrev w_MO_digestOfWords : List Cond := Cond.code y_MO_digestOfWords b_MO_digestOfWords 4 (some .long) :: tG
def rm_MO_digestOfWords : Room := { frames := 1, cells := 0, slots := 0, locals := 25 }
theorem cb_MO_digestOfWords {R : Room} {s : State} {args : Array Value} {own : String} {idx : Nat} {q : Cond} (hts : ∀ w ∈ q :: tG, w.before args s = true) (hl : Cond.methodLink own idx y_MO_digestOfWords ∈ tG) (hR : rm_MO_digestOfWords.frames + 1 ≤ R.frames ∧ 8 + (4 + 11) + rm_MO_digestOfWords.locals ≤ R.locals) : CallW R s args own "NibbleTrieModel" idx y_MO_digestOfWords b_MO_digestOfWords 4 (some .long) w_MO_digestOfWords rm_MO_digestOfWords 0 0 0 := ⟨callB_of 0 hts (gx t_539) rfl rfl rfl (hts _ (List.mem_cons_of_mem _ t_6)) (hts _ (List.mem_cons_of_mem _ hl)) (by decide +kernel) hR, hts _ (List.mem_cons_of_mem _ t_538), hts _ (List.mem_cons_of_mem _ ts_32)⟩
abbrev y_MO_build : MethodName := ⟨"NibbleTrieModel", "build", "(I)V"⟩
abbrev b_MO_build : ByteArray := prog_7_method_21_code
abbrev w_MO_build : List Cond := Cond.code y_MO_build b_MO_build 6 none :: tG
def rm_MO_build : Room := { frames := 6, cells := 0, slots := 0, locals := 142 }
theorem cb_MO_build {R : Room} {s : State} {args : Array Value} {own : String} {idx : Nat} {q : Cond} (hts : ∀ w ∈ q :: tG, w.before args s = true) (hl : Cond.methodLink own idx y_MO_build ∈ tG) (hR : rm_MO_build.frames + 1 ≤ R.frames ∧ 8 + (6 + 11) + rm_MO_build.locals ≤ R.locals) : CallW R s args own "NibbleTrieModel" idx y_MO_build b_MO_build 6 none w_MO_build rm_MO_build 0 0 1 := ⟨callB_of 1 hts (gx t_496) rfl rfl rfl (hts _ (List.mem_cons_of_mem _ t_6)) (hts _ (List.mem_cons_of_mem _ hl)) (by decide +kernel) hR, hts _ (List.mem_cons_of_mem _ t_495), hts _ (List.mem_cons_of_mem _ ts_23)⟩
abbrev y_MO_rootOf : MethodName := ⟨"NibbleTrieModel", "rootOf", "(I)J"⟩
abbrev b_MO_rootOf : ByteArray := prog_7_method_22_code
abbrev w_MO_rootOf : List Cond := Cond.code y_MO_rootOf b_MO_rootOf 2 (some .long) :: tG
def rm_MO_rootOf : Room := { frames := 5, cells := 0, slots := 0, locals := 119 }
theorem cb_MO_rootOf {R : Room} {s : State} {args : Array Value} {own : String} {idx : Nat} {q : Cond} (hts : ∀ w ∈ q :: tG, w.before args s = true) (hl : Cond.methodLink own idx y_MO_rootOf ∈ tG) (hR : rm_MO_rootOf.frames + 1 ≤ R.frames ∧ 8 + (2 + 11) + rm_MO_rootOf.locals ≤ R.locals) : CallW R s args own "NibbleTrieModel" idx y_MO_rootOf b_MO_rootOf 2 (some .long) w_MO_rootOf rm_MO_rootOf 0 0 1 := ⟨callB_of 1 hts (gx t_547) rfl rfl rfl (hts _ (List.mem_cons_of_mem _ t_6)) (hts _ (List.mem_cons_of_mem _ hl)) (by decide +kernel) hR, hts _ (List.mem_cons_of_mem _ t_546), hts _ (List.mem_cons_of_mem _ ts_33)⟩
abbrev y_MO_root : MethodName := ⟨"NibbleTrieModel", "root", "()J"⟩
abbrev b_MO_root : ByteArray := prog_7_method_23_code
abbrev w_MO_root : List Cond := Cond.code y_MO_root b_MO_root 1 (some .long) :: tG
def rm_MO_root : Room := { frames := 7, cells := 0, slots := 0, locals := 167 }
theorem cb_MO_root {R : Room} {s : State} {args : Array Value} {own : String} {idx : Nat} {q : Cond} (hts : ∀ w ∈ q :: tG, w.before args s = true) (hl : Cond.methodLink own idx y_MO_root ∈ tG) (hR : rm_MO_root.frames + 1 ≤ R.frames ∧ 8 + (1 + 11) + rm_MO_root.locals ≤ R.locals) : CallW R s args own "NibbleTrieModel" idx y_MO_root b_MO_root 1 (some .long) w_MO_root rm_MO_root 0 0 0 := ⟨callB_of 0 hts (gx t_492) rfl rfl rfl (hts _ (List.mem_cons_of_mem _ t_6)) (hts _ (List.mem_cons_of_mem _ hl)) (by decide +kernel) hR, hts _ (List.mem_cons_of_mem _ t_490), hts _ (List.mem_cons_of_mem _ t_491)⟩
abbrev y_MO_count : MethodName := ⟨"NibbleTrieModel", "count", "(I)I"⟩
abbrev b_MO_count : ByteArray := prog_7_method_24_code
abbrev w_MO_count : List Cond := Cond.code y_MO_count b_MO_count 8 (some .int) :: tG
def rm_MO_count : Room := { frames := 7, cells := 0, slots := 0, locals := 167 }
theorem cb_MO_count {R : Room} {s : State} {args : Array Value} {own : String} {idx : Nat} {q : Cond} (hts : ∀ w ∈ q :: tG, w.before args s = true) (hl : Cond.methodLink own idx y_MO_count ∈ tG) (hR : rm_MO_count.frames + 1 ≤ R.frames ∧ 8 + (8 + 11) + rm_MO_count.locals ≤ R.locals) : CallW R s args own "NibbleTrieModel" idx y_MO_count b_MO_count 8 (some .int) w_MO_count rm_MO_count 0 0 1 := ⟨callB_of 1 hts (gx t_551) rfl rfl rfl (hts _ (List.mem_cons_of_mem _ t_6)) (hts _ (List.mem_cons_of_mem _ hl)) (by decide +kernel) hR, hts _ (List.mem_cons_of_mem _ t_549), hts _ (List.mem_cons_of_mem _ t_550)⟩
abbrev y_MO_same : MethodName := ⟨"NibbleTrieModel", "same", "(II)Z"⟩
abbrev b_MO_same : ByteArray := prog_7_method_25_code
abbrev w_MO_same : List Cond := Cond.code y_MO_same b_MO_same 10 (some .boolean) :: tG
def rm_MO_same : Room := { frames := 3, cells := 0, slots := 0, locals := 66 }
theorem cb_MO_same {R : Room} {s : State} {args : Array Value} {own : String} {idx : Nat} {q : Cond} (hts : ∀ w ∈ q :: tG, w.before args s = true) (hl : Cond.methodLink own idx y_MO_same ∈ tG) (hR : rm_MO_same.frames + 1 ≤ R.frames ∧ 8 + (10 + 11) + rm_MO_same.locals ≤ R.locals) : CallW R s args own "NibbleTrieModel" idx y_MO_same b_MO_same 10 (some .boolean) w_MO_same rm_MO_same 0 0 2 := ⟨callB_of 2 hts (gx t_563) rfl rfl rfl (hts _ (List.mem_cons_of_mem _ t_6)) (hts _ (List.mem_cons_of_mem _ hl)) (by decide +kernel) hR, hts _ (List.mem_cons_of_mem _ t_562), hts _ (List.mem_cons_of_mem _ ts_35)⟩
abbrev y_MO_stands : MethodName := ⟨"NibbleTrieModel", "stands", "(I)Z"⟩
abbrev b_MO_stands : ByteArray := prog_7_method_26_code
abbrev w_MO_stands : List Cond := Cond.code y_MO_stands b_MO_stands 3 (some .boolean) :: tG
def rm_MO_stands : Room := { frames := 4, cells := 0, slots := 0, locals := 95 }
theorem cb_MO_stands {R : Room} {s : State} {args : Array Value} {own : String} {idx : Nat} {q : Cond} (hts : ∀ w ∈ q :: tG, w.before args s = true) (hl : Cond.methodLink own idx y_MO_stands ∈ tG) (hR : rm_MO_stands.frames + 1 ≤ R.frames ∧ 8 + (3 + 11) + rm_MO_stands.locals ≤ R.locals) : CallW R s args own "NibbleTrieModel" idx y_MO_stands b_MO_stands 3 (some .boolean) w_MO_stands rm_MO_stands 0 0 1 := ⟨callB_of 1 hts (gx t_599) rfl rfl rfl (hts _ (List.mem_cons_of_mem _ t_6)) (hts _ (List.mem_cons_of_mem _ hl)) (by decide +kernel) hR, hts _ (List.mem_cons_of_mem _ t_598), hts _ (List.mem_cons_of_mem _ ts_39)⟩
abbrev y_MO_has : MethodName := ⟨"NibbleTrieModel", "has", "(I)Z"⟩
abbrev b_MO_has : ByteArray := prog_7_method_27_code
abbrev w_MO_has : List Cond := Cond.code y_MO_has b_MO_has 4 (some .boolean) :: tG
def rm_MO_has : Room := { frames := 4, cells := 0, slots := 0, locals := 95 }
theorem cb_MO_has {R : Room} {s : State} {args : Array Value} {own : String} {idx : Nat} {q : Cond} (hts : ∀ w ∈ q :: tG, w.before args s = true) (hl : Cond.methodLink own idx y_MO_has ∈ tG) (hR : rm_MO_has.frames + 1 ≤ R.frames ∧ 8 + (4 + 11) + rm_MO_has.locals ≤ R.locals) : CallW R s args own "NibbleTrieModel" idx y_MO_has b_MO_has 4 (some .boolean) w_MO_has rm_MO_has 0 0 1 := ⟨callB_of 1 hts (gx t_559) rfl rfl rfl (hts _ (List.mem_cons_of_mem _ t_6)) (hts _ (List.mem_cons_of_mem _ hl)) (by decide +kernel) hR, hts _ (List.mem_cons_of_mem _ t_558), hts _ (List.mem_cons_of_mem _ ts_34)⟩
abbrev y_MO_back : MethodName := ⟨"NibbleTrieModel", "back", "()V"⟩
abbrev b_MO_back : ByteArray := prog_7_method_28_code
abbrev w_MO_back : List Cond := Cond.code y_MO_back b_MO_back 1 none :: tG
def rm_MO_back : Room := { frames := 1, cells := 0, slots := 0, locals := 23 }
theorem cb_MO_back {R : Room} {s : State} {args : Array Value} {own : String} {idx : Nat} {q : Cond} (hts : ∀ w ∈ q :: tG, w.before args s = true) (hl : Cond.methodLink own idx y_MO_back ∈ tG) (hR : rm_MO_back.frames + 1 ≤ R.frames ∧ 8 + (1 + 11) + rm_MO_back.locals ≤ R.locals) : CallW R s args own "NibbleTrieModel" idx y_MO_back b_MO_back 1 none w_MO_back rm_MO_back 0 0 0 := ⟨callB_of 0 hts (gx t_567) rfl rfl rfl (hts _ (List.mem_cons_of_mem _ t_6)) (hts _ (List.mem_cons_of_mem _ hl)) (by decide +kernel) hR, hts _ (List.mem_cons_of_mem _ t_566), hts _ (List.mem_cons_of_mem _ ts_36)⟩
abbrev y_MO_commit : MethodName := ⟨"NibbleTrieModel", "commit", "(I)I"⟩
abbrev b_MO_commit : ByteArray := prog_7_method_29_code
abbrev w_MO_commit : List Cond := Cond.code y_MO_commit b_MO_commit 4 (some .int) :: tG
def rm_MO_commit : Room := { frames := 7, cells := 0, slots := 0, locals := 167 }
theorem cb_MO_commit {R : Room} {s : State} {args : Array Value} {own : String} {idx : Nat} {q : Cond} (hts : ∀ w ∈ q :: tG, w.before args s = true) (hl : Cond.methodLink own idx y_MO_commit ∈ tG) (hR : rm_MO_commit.frames + 1 ≤ R.frames ∧ 8 + (4 + 11) + rm_MO_commit.locals ≤ R.locals) : CallW R s args own "NibbleTrieModel" idx y_MO_commit b_MO_commit 4 (some .int) w_MO_commit rm_MO_commit 0 0 1 := ⟨callB_of 1 hts (gx t_555) rfl rfl rfl (hts _ (List.mem_cons_of_mem _ t_6)) (hts _ (List.mem_cons_of_mem _ hl)) (by decide +kernel) hR, hts _ (List.mem_cons_of_mem _ t_553), hts _ (List.mem_cons_of_mem _ t_554)⟩
abbrev y_MO_crash : MethodName := ⟨"NibbleTrieModel", "crash", "()I"⟩
abbrev b_MO_crash : ByteArray := prog_7_method_30_code
abbrev w_MO_crash : List Cond := Cond.code y_MO_crash b_MO_crash 1 (some .int) :: tG
def rm_MO_crash : Room := { frames := 2, cells := 0, slots := 0, locals := 43 }
theorem cb_MO_crash {R : Room} {s : State} {args : Array Value} {own : String} {idx : Nat} {q : Cond} (hts : ∀ w ∈ q :: tG, w.before args s = true) (hl : Cond.methodLink own idx y_MO_crash ∈ tG) (hR : rm_MO_crash.frames + 1 ≤ R.frames ∧ 8 + (1 + 11) + rm_MO_crash.locals ≤ R.locals) : CallW R s args own "NibbleTrieModel" idx y_MO_crash b_MO_crash 1 (some .int) w_MO_crash rm_MO_crash 0 0 0 := ⟨callB_of 0 hts (gx t_575) rfl rfl rfl (hts _ (List.mem_cons_of_mem _ t_6)) (hts _ (List.mem_cons_of_mem _ hl)) (by decide +kernel) hR, hts _ (List.mem_cons_of_mem _ t_573), hts _ (List.mem_cons_of_mem _ t_574)⟩
abbrev y_MO_versions : MethodName := ⟨"NibbleTrieModel", "versions", "()I"⟩
abbrev b_MO_versions : ByteArray := prog_7_method_31_code
abbrev w_MO_versions : List Cond := Cond.code y_MO_versions b_MO_versions 1 (some .int) :: tG
def rm_MO_versions : Room := { frames := 0, cells := 0, slots := 0, locals := 0 }
theorem cb_MO_versions {R : Room} {s : State} {args : Array Value} {own : String} {idx : Nat} {q : Cond} (hts : ∀ w ∈ q :: tG, w.before args s = true) (hl : Cond.methodLink own idx y_MO_versions ∈ tG) (hR : rm_MO_versions.frames + 1 ≤ R.frames ∧ 8 + (1 + 11) + rm_MO_versions.locals ≤ R.locals) : CallW R s args own "NibbleTrieModel" idx y_MO_versions b_MO_versions 1 (some .int) w_MO_versions rm_MO_versions 0 0 0 := ⟨callB_of 0 hts (gx t_579) rfl rfl rfl (hts _ (List.mem_cons_of_mem _ t_6)) (hts _ (List.mem_cons_of_mem _ hl)) (by decide +kernel) hR, hts _ (List.mem_cons_of_mem _ t_577), hts _ (List.mem_cons_of_mem _ t_578)⟩
abbrev y_MO_isVersion : MethodName := ⟨"NibbleTrieModel", "isVersion", "(I)Z"⟩
abbrev b_MO_isVersion : ByteArray := prog_7_method_32_code
abbrev w_MO_isVersion : List Cond := Cond.code y_MO_isVersion b_MO_isVersion 2 (some .boolean) :: tG
def rm_MO_isVersion : Room := { frames := 0, cells := 0, slots := 0, locals := 0 }
theorem cb_MO_isVersion {R : Room} {s : State} {args : Array Value} {own : String} {idx : Nat} {q : Cond} (hts : ∀ w ∈ q :: tG, w.before args s = true) (hl : Cond.methodLink own idx y_MO_isVersion ∈ tG) (hR : rm_MO_isVersion.frames + 1 ≤ R.frames ∧ 8 + (2 + 11) + rm_MO_isVersion.locals ≤ R.locals) : CallW R s args own "NibbleTrieModel" idx y_MO_isVersion b_MO_isVersion 2 (some .boolean) w_MO_isVersion rm_MO_isVersion 0 0 1 := ⟨callB_of 1 hts (gx t_587) rfl rfl rfl (hts _ (List.mem_cons_of_mem _ t_6)) (hts _ (List.mem_cons_of_mem _ hl)) (by decide +kernel) hR, hts _ (List.mem_cons_of_mem _ t_586), hts _ (List.mem_cons_of_mem _ ts_38)⟩
abbrev y_MO_at : MethodName := ⟨"NibbleTrieModel", "at", "(II)I"⟩
abbrev b_MO_at : ByteArray := prog_7_method_33_code
abbrev w_MO_at : List Cond := Cond.code y_MO_at b_MO_at 3 (some .int) :: tG
def rm_MO_at : Room := { frames := 2, cells := 0, slots := 0, locals := 46 }
theorem cb_MO_at {R : Room} {s : State} {args : Array Value} {own : String} {idx : Nat} {q : Cond} (hts : ∀ w ∈ q :: tG, w.before args s = true) (hl : Cond.methodLink own idx y_MO_at ∈ tG) (hR : rm_MO_at.frames + 1 ≤ R.frames ∧ 8 + (3 + 11) + rm_MO_at.locals ≤ R.locals) : CallW R s args own "NibbleTrieModel" idx y_MO_at b_MO_at 3 (some .int) w_MO_at rm_MO_at 0 0 2 := ⟨callB_of 2 hts (gx t_583) rfl rfl rfl (hts _ (List.mem_cons_of_mem _ t_6)) (hts _ (List.mem_cons_of_mem _ hl)) (by decide +kernel) hR, hts _ (List.mem_cons_of_mem _ t_581), hts _ (List.mem_cons_of_mem _ t_582)⟩
abbrev y_MO_rootAt : MethodName := ⟨"NibbleTrieModel", "rootAt", "(I)J"⟩
abbrev b_MO_rootAt : ByteArray := prog_7_method_34_code
abbrev w_MO_rootAt : List Cond := Cond.code y_MO_rootAt b_MO_rootAt 2 (some .long) :: tG
def rm_MO_rootAt : Room := { frames := 6, cells := 0, slots := 0, locals := 140 }
theorem cb_MO_rootAt {R : Room} {s : State} {args : Array Value} {own : String} {idx : Nat} {q : Cond} (hts : ∀ w ∈ q :: tG, w.before args s = true) (hl : Cond.methodLink own idx y_MO_rootAt ∈ tG) (hR : rm_MO_rootAt.frames + 1 ≤ R.frames ∧ 8 + (2 + 11) + rm_MO_rootAt.locals ≤ R.locals) : CallW R s args own "NibbleTrieModel" idx y_MO_rootAt b_MO_rootAt 2 (some .long) w_MO_rootAt rm_MO_rootAt 0 0 1 := ⟨callB_of 1 hts (gx t_591) rfl rfl rfl (hts _ (List.mem_cons_of_mem _ t_6)) (hts _ (List.mem_cons_of_mem _ hl)) (by decide +kernel) hR, hts _ (List.mem_cons_of_mem _ t_589), hts _ (List.mem_cons_of_mem _ t_590)⟩
abbrev y_MO_stored : MethodName := ⟨"NibbleTrieModel", "stored", "()I"⟩
abbrev b_MO_stored : ByteArray := prog_7_method_35_code
abbrev w_MO_stored : List Cond := Cond.code y_MO_stored b_MO_stored 3 (some .int) :: tG
def rm_MO_stored : Room := { frames := 5, cells := 0, slots := 0, locals := 117 }
theorem cb_MO_stored {R : Room} {s : State} {args : Array Value} {own : String} {idx : Nat} {q : Cond} (hts : ∀ w ∈ q :: tG, w.before args s = true) (hl : Cond.methodLink own idx y_MO_stored ∈ tG) (hR : rm_MO_stored.frames + 1 ≤ R.frames ∧ 8 + (3 + 11) + rm_MO_stored.locals ≤ R.locals) : CallW R s args own "NibbleTrieModel" idx y_MO_stored b_MO_stored 3 (some .int) w_MO_stored rm_MO_stored 0 0 0 := ⟨callB_of 0 hts (gx t_595) rfl rfl rfl (hts _ (List.mem_cons_of_mem _ t_6)) (hts _ (List.mem_cons_of_mem _ hl)) (by decide +kernel) hR, hts _ (List.mem_cons_of_mem _ t_593), hts _ (List.mem_cons_of_mem _ t_594)⟩
abbrev y_MO_leads : MethodName := ⟨"NibbleTrieModel", "leads", "(III)Z"⟩
abbrev b_MO_leads : ByteArray := prog_7_method_36_code
abbrev w_MO_leads : List Cond := Cond.code y_MO_leads b_MO_leads 7 (some .boolean) :: tG
def rm_MO_leads : Room := { frames := 4, cells := 0, slots := 0, locals := 95 }
theorem cb_MO_leads {R : Room} {s : State} {args : Array Value} {own : String} {idx : Nat} {q : Cond} (hts : ∀ w ∈ q :: tG, w.before args s = true) (hl : Cond.methodLink own idx y_MO_leads ∈ tG) (hR : rm_MO_leads.frames + 1 ≤ R.frames ∧ 8 + (7 + 11) + rm_MO_leads.locals ≤ R.locals) : CallW R s args own "NibbleTrieModel" idx y_MO_leads b_MO_leads 7 (some .boolean) w_MO_leads rm_MO_leads 0 0 3 := ⟨callB_of 3 hts (gx t_611) rfl rfl rfl (hts _ (List.mem_cons_of_mem _ t_6)) (hts _ (List.mem_cons_of_mem _ hl)) (by decide +kernel) hR, hts _ (List.mem_cons_of_mem _ t_610), hts _ (List.mem_cons_of_mem _ ts_41)⟩
abbrev y_MO_usesOf : MethodName := ⟨"NibbleTrieModel", "usesOf", "(I)I"⟩
abbrev b_MO_usesOf : ByteArray := prog_7_method_37_code
abbrev w_MO_usesOf : List Cond := Cond.code y_MO_usesOf b_MO_usesOf 6 (some .int) :: tG
def rm_MO_usesOf : Room := { frames := 5, cells := 0, slots := 0, locals := 121 }
theorem cb_MO_usesOf {R : Room} {s : State} {args : Array Value} {own : String} {idx : Nat} {q : Cond} (hts : ∀ w ∈ q :: tG, w.before args s = true) (hl : Cond.methodLink own idx y_MO_usesOf ∈ tG) (hR : rm_MO_usesOf.frames + 1 ≤ R.frames ∧ 8 + (6 + 11) + rm_MO_usesOf.locals ≤ R.locals) : CallW R s args own "NibbleTrieModel" idx y_MO_usesOf b_MO_usesOf 6 (some .int) w_MO_usesOf rm_MO_usesOf 0 0 1 := ⟨callB_of 1 hts (gx t_607) rfl rfl rfl (hts _ (List.mem_cons_of_mem _ t_6)) (hts _ (List.mem_cons_of_mem _ hl)) (by decide +kernel) hR, hts _ (List.mem_cons_of_mem _ t_606), hts _ (List.mem_cons_of_mem _ ts_40)⟩
abbrev y_MO_uses : MethodName := ⟨"NibbleTrieModel", "uses", "(J)I"⟩
abbrev b_MO_uses : ByteArray := prog_7_method_38_code
abbrev w_MO_uses : List Cond := Cond.code y_MO_uses b_MO_uses 5 (some .int) :: tG
def rm_MO_uses : Room := { frames := 6, cells := 0, slots := 0, locals := 146 }
theorem cb_MO_uses {R : Room} {s : State} {args : Array Value} {own : String} {idx : Nat} {q : Cond} (hts : ∀ w ∈ q :: tG, w.before args s = true) (hl : Cond.methodLink own idx y_MO_uses ∈ tG) (hR : rm_MO_uses.frames + 1 ≤ R.frames ∧ 8 + (5 + 11) + rm_MO_uses.locals ≤ R.locals) : CallW R s args own "NibbleTrieModel" idx y_MO_uses b_MO_uses 5 (some .int) w_MO_uses rm_MO_uses 0 0 1 := ⟨callB_of 1 hts (gx t_603) rfl rfl rfl (hts _ (List.mem_cons_of_mem _ t_6)) (hts _ (List.mem_cons_of_mem _ hl)) (by decide +kernel) hR, hts _ (List.mem_cons_of_mem _ t_601), hts _ (List.mem_cons_of_mem _ t_602)⟩
abbrev y_MO_append : MethodName := ⟨"NibbleTrieModel", "append", "()V"⟩
abbrev b_MO_append : ByteArray := prog_7_method_39_code
abbrev w_MO_append : List Cond := Cond.code y_MO_append b_MO_append 2 none :: tG
def rm_MO_append : Room := { frames := 0, cells := 0, slots := 0, locals := 0 }
theorem cb_MO_append {R : Room} {s : State} {args : Array Value} {own : String} {idx : Nat} {q : Cond} (hts : ∀ w ∈ q :: tG, w.before args s = true) (hl : Cond.methodLink own idx y_MO_append ∈ tG) (hR : rm_MO_append.frames + 1 ≤ R.frames ∧ 8 + (2 + 11) + rm_MO_append.locals ≤ R.locals) : CallW R s args own "NibbleTrieModel" idx y_MO_append b_MO_append 2 none w_MO_append rm_MO_append 0 0 0 := ⟨callB_of 0 hts (gx t_619) rfl rfl rfl (hts _ (List.mem_cons_of_mem _ t_6)) (hts _ (List.mem_cons_of_mem _ hl)) (by decide +kernel) hR, hts _ (List.mem_cons_of_mem _ t_618), hts _ (List.mem_cons_of_mem _ ts_42)⟩
abbrev y_MO_prove : MethodName := ⟨"NibbleTrieModel", "prove", "(II)I"⟩
abbrev b_MO_prove : ByteArray := prog_7_method_40_code
abbrev w_MO_prove : List Cond := Cond.code y_MO_prove b_MO_prove 6 (some .int) :: tG
def rm_MO_prove : Room := { frames := 6, cells := 0, slots := 0, locals := 142 }
theorem cb_MO_prove {R : Room} {s : State} {args : Array Value} {own : String} {idx : Nat} {q : Cond} (hts : ∀ w ∈ q :: tG, w.before args s = true) (hl : Cond.methodLink own idx y_MO_prove ∈ tG) (hR : rm_MO_prove.frames + 1 ≤ R.frames ∧ 8 + (6 + 11) + rm_MO_prove.locals ≤ R.locals) : CallW R s args own "NibbleTrieModel" idx y_MO_prove b_MO_prove 6 (some .int) w_MO_prove rm_MO_prove 0 0 2 := ⟨callB_of 2 hts (gx t_615) rfl rfl rfl (hts _ (List.mem_cons_of_mem _ t_6)) (hts _ (List.mem_cons_of_mem _ hl)) (by decide +kernel) hR, hts _ (List.mem_cons_of_mem _ t_613), hts _ (List.mem_cons_of_mem _ t_614)⟩
abbrev y_MO_word : MethodName := ⟨"NibbleTrieModel", "word", "(I)J"⟩
abbrev b_MO_word : ByteArray := prog_7_method_41_code
abbrev w_MO_word : List Cond := Cond.code y_MO_word b_MO_word 2 (some .long) :: tG
def rm_MO_word : Room := { frames := 0, cells := 0, slots := 0, locals := 0 }
theorem cb_MO_word {R : Room} {s : State} {args : Array Value} {own : String} {idx : Nat} {q : Cond} (hts : ∀ w ∈ q :: tG, w.before args s = true) (hl : Cond.methodLink own idx y_MO_word ∈ tG) (hR : rm_MO_word.frames + 1 ≤ R.frames ∧ 8 + (2 + 11) + rm_MO_word.locals ≤ R.locals) : CallW R s args own "NibbleTrieModel" idx y_MO_word b_MO_word 2 (some .long) w_MO_word rm_MO_word 0 0 1 := ⟨callB_of 1 hts (gx t_623) rfl rfl rfl (hts _ (List.mem_cons_of_mem _ t_6)) (hts _ (List.mem_cons_of_mem _ hl)) (by decide +kernel) hR, hts _ (List.mem_cons_of_mem _ t_621), hts _ (List.mem_cons_of_mem _ t_622)⟩
abbrev y_MO_alter : MethodName := ⟨"NibbleTrieModel", "alter", "(IJ)Z"⟩
abbrev b_MO_alter : ByteArray := prog_7_method_42_code
abbrev w_MO_alter : List Cond := Cond.code y_MO_alter b_MO_alter 4 (some .boolean) :: tG
def rm_MO_alter : Room := { frames := 0, cells := 0, slots := 0, locals := 0 }
theorem cb_MO_alter {R : Room} {s : State} {args : Array Value} {own : String} {idx : Nat} {q : Cond} (hts : ∀ w ∈ q :: tG, w.before args s = true) (hl : Cond.methodLink own idx y_MO_alter ∈ tG) (hR : rm_MO_alter.frames + 1 ≤ R.frames ∧ 8 + (4 + 11) + rm_MO_alter.locals ≤ R.locals) : CallW R s args own "NibbleTrieModel" idx y_MO_alter b_MO_alter 4 (some .boolean) w_MO_alter rm_MO_alter 0 0 2 := ⟨callB_of 2 hts (gx t_627) rfl rfl rfl (hts _ (List.mem_cons_of_mem _ t_6)) (hts _ (List.mem_cons_of_mem _ hl)) (by decide +kernel) hR, hts _ (List.mem_cons_of_mem _ t_625), hts _ (List.mem_cons_of_mem _ t_626)⟩
abbrev y_MO_cut : MethodName := ⟨"NibbleTrieModel", "cut", "()I"⟩
abbrev b_MO_cut : ByteArray := prog_7_method_43_code
abbrev w_MO_cut : List Cond := Cond.code y_MO_cut b_MO_cut 1 (some .int) :: tG
def rm_MO_cut : Room := { frames := 0, cells := 0, slots := 0, locals := 0 }
theorem cb_MO_cut {R : Room} {s : State} {args : Array Value} {own : String} {idx : Nat} {q : Cond} (hts : ∀ w ∈ q :: tG, w.before args s = true) (hl : Cond.methodLink own idx y_MO_cut ∈ tG) (hR : rm_MO_cut.frames + 1 ≤ R.frames ∧ 8 + (1 + 11) + rm_MO_cut.locals ≤ R.locals) : CallW R s args own "NibbleTrieModel" idx y_MO_cut b_MO_cut 1 (some .int) w_MO_cut rm_MO_cut 0 0 0 := ⟨callB_of 0 hts (gx t_631) rfl rfl rfl (hts _ (List.mem_cons_of_mem _ t_6)) (hts _ (List.mem_cons_of_mem _ hl)) (by decide +kernel) hR, hts _ (List.mem_cons_of_mem _ t_629), hts _ (List.mem_cons_of_mem _ t_630)⟩
abbrev y_MO_few : MethodName := ⟨"NibbleTrieModel", "few", "(J)Z"⟩
abbrev b_MO_few : ByteArray := prog_7_method_44_code
abbrev w_MO_few : List Cond := Cond.code y_MO_few b_MO_few 2 (some .boolean) :: tG
def rm_MO_few : Room := { frames := 0, cells := 0, slots := 0, locals := 0 }
theorem cb_MO_few {R : Room} {s : State} {args : Array Value} {own : String} {idx : Nat} {q : Cond} (hts : ∀ w ∈ q :: tG, w.before args s = true) (hl : Cond.methodLink own idx y_MO_few ∈ tG) (hR : rm_MO_few.frames + 1 ≤ R.frames ∧ 8 + (2 + 11) + rm_MO_few.locals ≤ R.locals) : CallB R s args own idx y_MO_few b_MO_few 2 (some .boolean) w_MO_few rm_MO_few 0 0 1 ∧ (Cond.static y_MO_few).before args s = true := ⟨callB_of 1 hts (gx t_638) rfl rfl rfl (hts _ (List.mem_cons_of_mem _ t_6)) (hts _ (List.mem_cons_of_mem _ hl)) (by decide +kernel) hR, hts _ (List.mem_cons_of_mem _ t_637)⟩
abbrev y_MO_digestOf : MethodName := ⟨"NibbleTrieModel", "digestOf", "(II)J"⟩
abbrev b_MO_digestOf : ByteArray := prog_7_method_45_code
abbrev w_MO_digestOf : List Cond := Cond.code y_MO_digestOf b_MO_digestOf 6 (some .long) :: tG
def rm_MO_digestOf : Room := { frames := 1, cells := 0, slots := 0, locals := 25 }
theorem cb_MO_digestOf {R : Room} {s : State} {args : Array Value} {own : String} {idx : Nat} {q : Cond} (hts : ∀ w ∈ q :: tG, w.before args s = true) (hl : Cond.methodLink own idx y_MO_digestOf ∈ tG) (hR : rm_MO_digestOf.frames + 1 ≤ R.frames ∧ 8 + (6 + 11) + rm_MO_digestOf.locals ≤ R.locals) : CallW R s args own "NibbleTrieModel" idx y_MO_digestOf b_MO_digestOf 6 (some .long) w_MO_digestOf rm_MO_digestOf 0 0 2 := ⟨callB_of 2 hts (gx t_646) rfl rfl rfl (hts _ (List.mem_cons_of_mem _ t_6)) (hts _ (List.mem_cons_of_mem _ hl)) (by decide +kernel) hR, hts _ (List.mem_cons_of_mem _ t_645), hts _ (List.mem_cons_of_mem _ ts_44)⟩
abbrev y_MO_refer : MethodName := ⟨"NibbleTrieModel", "refer", "(II)Z"⟩
abbrev b_MO_refer : ByteArray := prog_7_method_46_code
abbrev w_MO_refer : List Cond := Cond.code y_MO_refer b_MO_refer 3 (some .boolean) :: tG
def rm_MO_refer : Room := { frames := 0, cells := 0, slots := 0, locals := 0 }
theorem cb_MO_refer {R : Room} {s : State} {args : Array Value} {own : String} {idx : Nat} {q : Cond} (hts : ∀ w ∈ q :: tG, w.before args s = true) (hl : Cond.methodLink own idx y_MO_refer ∈ tG) (hR : rm_MO_refer.frames + 1 ≤ R.frames ∧ 8 + (3 + 11) + rm_MO_refer.locals ≤ R.locals) : CallW R s args own "NibbleTrieModel" idx y_MO_refer b_MO_refer 3 (some .boolean) w_MO_refer rm_MO_refer 0 0 2 := ⟨callB_of 2 hts (gx t_642) rfl rfl rfl (hts _ (List.mem_cons_of_mem _ t_6)) (hts _ (List.mem_cons_of_mem _ hl)) (by decide +kernel) hR, hts _ (List.mem_cons_of_mem _ t_641), hts _ (List.mem_cons_of_mem _ ts_43)⟩
abbrev y_MO_branchEnd : MethodName := ⟨"NibbleTrieModel", "branchEnd", "()I"⟩
abbrev b_MO_branchEnd : ByteArray := prog_7_method_47_code
abbrev w_MO_branchEnd : List Cond := Cond.code y_MO_branchEnd b_MO_branchEnd 3 (some .int) :: tG
def rm_MO_branchEnd : Room := { frames := 1, cells := 0, slots := 0, locals := 21 }
theorem cb_MO_branchEnd {R : Room} {s : State} {args : Array Value} {own : String} {idx : Nat} {q : Cond} (hts : ∀ w ∈ q :: tG, w.before args s = true) (hl : Cond.methodLink own idx y_MO_branchEnd ∈ tG) (hR : rm_MO_branchEnd.frames + 1 ≤ R.frames ∧ 8 + (3 + 11) + rm_MO_branchEnd.locals ≤ R.locals) : CallW R s args own "NibbleTrieModel" idx y_MO_branchEnd b_MO_branchEnd 3 (some .int) w_MO_branchEnd rm_MO_branchEnd 0 0 0 := ⟨callB_of 0 hts (gx t_660) rfl rfl rfl (hts _ (List.mem_cons_of_mem _ t_6)) (hts _ (List.mem_cons_of_mem _ hl)) (by decide +kernel) hR, hts _ (List.mem_cons_of_mem _ t_659), hts _ (List.mem_cons_of_mem _ ts_47)⟩
abbrev y_MO_throughBranch : MethodName := ⟨"NibbleTrieModel", "throughBranch", "()I"⟩
abbrev b_MO_throughBranch : ByteArray := prog_7_method_48_code
abbrev w_MO_throughBranch : List Cond := Cond.code y_MO_throughBranch b_MO_throughBranch 6 (some .int) :: tG
def rm_MO_throughBranch : Room := { frames := 2, cells := 0, slots := 0, locals := 50 }
theorem cb_MO_throughBranch {R : Room} {s : State} {args : Array Value} {own : String} {idx : Nat} {q : Cond} (hts : ∀ w ∈ q :: tG, w.before args s = true) (hl : Cond.methodLink own idx y_MO_throughBranch ∈ tG) (hR : rm_MO_throughBranch.frames + 1 ≤ R.frames ∧ 8 + (6 + 11) + rm_MO_throughBranch.locals ≤ R.locals) : CallW R s args own "NibbleTrieModel" idx y_MO_throughBranch b_MO_throughBranch 6 (some .int) w_MO_throughBranch rm_MO_throughBranch 0 0 0 := ⟨callB_of 0 hts (gx t_656) rfl rfl rfl (hts _ (List.mem_cons_of_mem _ t_6)) (hts _ (List.mem_cons_of_mem _ hl)) (by decide +kernel) hR, hts _ (List.mem_cons_of_mem _ t_655), hts _ (List.mem_cons_of_mem _ ts_46)⟩
abbrev y_MO_throughTwo : MethodName := ⟨"NibbleTrieModel", "throughTwo", "()I"⟩
abbrev b_MO_throughTwo : ByteArray := prog_7_method_49_code
abbrev w_MO_throughTwo : List Cond := Cond.code y_MO_throughTwo b_MO_throughTwo 2 (some .int) :: tG
def rm_MO_throughTwo : Room := { frames := 2, cells := 0, slots := 0, locals := 42 }
theorem cb_MO_throughTwo {R : Room} {s : State} {args : Array Value} {own : String} {idx : Nat} {q : Cond} (hts : ∀ w ∈ q :: tG, w.before args s = true) (hl : Cond.methodLink own idx y_MO_throughTwo ∈ tG) (hR : rm_MO_throughTwo.frames + 1 ≤ R.frames ∧ 8 + (2 + 11) + rm_MO_throughTwo.locals ≤ R.locals) : CallW R s args own "NibbleTrieModel" idx y_MO_throughTwo b_MO_throughTwo 2 (some .int) w_MO_throughTwo rm_MO_throughTwo 0 0 0 := ⟨callB_of 0 hts (gx t_650) rfl rfl rfl (hts _ (List.mem_cons_of_mem _ t_6)) (hts _ (List.mem_cons_of_mem _ hl)) (by decide +kernel) hR, hts _ (List.mem_cons_of_mem _ t_649), hts _ (List.mem_cons_of_mem _ ts_45)⟩
abbrev y_MO_verify : MethodName := ⟨"NibbleTrieModel", "verify", "(JII)Z"⟩
abbrev b_MO_verify : ByteArray := prog_7_method_50_code
abbrev w_MO_verify : List Cond := Cond.code y_MO_verify b_MO_verify 8 (some .boolean) :: tG
def rm_MO_verify : Room := { frames := 3, cells := 0, slots := 0, locals := 75 }
theorem cb_MO_verify {R : Room} {s : State} {args : Array Value} {own : String} {idx : Nat} {q : Cond} (hts : ∀ w ∈ q :: tG, w.before args s = true) (hl : Cond.methodLink own idx y_MO_verify ∈ tG) (hR : rm_MO_verify.frames + 1 ≤ R.frames ∧ 8 + (8 + 11) + rm_MO_verify.locals ≤ R.locals) : CallW R s args own "NibbleTrieModel" idx y_MO_verify b_MO_verify 8 (some .boolean) w_MO_verify rm_MO_verify 0 0 3 := ⟨callB_of 3 hts (gx t_635) rfl rfl rfl (hts _ (List.mem_cons_of_mem _ t_6)) (hts _ (List.mem_cons_of_mem _ hl)) (by decide +kernel) hR, hts _ (List.mem_cons_of_mem _ t_633), hts _ (List.mem_cons_of_mem _ t_634)⟩
abbrev y_PA_isNumber : MethodName := ⟨"NibbleTrie$Path", "isNumber", "(J)Z"⟩
abbrev b_PA_isNumber : ByteArray := prog_2_method_2_code
abbrev w_PA_isNumber : List Cond := Cond.code y_PA_isNumber b_PA_isNumber 2 (some .boolean) :: tG
def rm_PA_isNumber : Room := { frames := 0, cells := 0, slots := 0, locals := 0 }
theorem cb_PA_isNumber {R : Room} {s : State} {args : Array Value} {own : String} {idx : Nat} {q : Cond} (hts : ∀ w ∈ q :: tG, w.before args s = true) (hl : Cond.methodLink own idx y_PA_isNumber ∈ tG) (hR : rm_PA_isNumber.frames + 1 ≤ R.frames ∧ 8 + (2 + 11) + rm_PA_isNumber.locals ≤ R.locals) : CallB R s args own idx y_PA_isNumber b_PA_isNumber 2 (some .boolean) w_PA_isNumber rm_PA_isNumber 0 0 1 ∧ (Cond.static y_PA_isNumber).before args s = true := ⟨callB_of 1 hts (gx t_142) rfl rfl rfl (hts _ (List.mem_cons_of_mem _ t_7)) (hts _ (List.mem_cons_of_mem _ hl)) (by decide +kernel) hR, hts _ (List.mem_cons_of_mem _ t_141)⟩
abbrev y_PA_length : MethodName := ⟨"NibbleTrie$Path", "length", "(I)I"⟩
abbrev b_PA_length : ByteArray := prog_2_method_3_code
abbrev w_PA_length : List Cond := Cond.code y_PA_length b_PA_length 1 (some .int) :: tG
def rm_PA_length : Room := { frames := 0, cells := 0, slots := 0, locals := 0 }
theorem cb_PA_length {R : Room} {s : State} {args : Array Value} {own : String} {idx : Nat} {q : Cond} (hts : ∀ w ∈ q :: tG, w.before args s = true) (hl : Cond.methodLink own idx y_PA_length ∈ tG) (hR : rm_PA_length.frames + 1 ≤ R.frames ∧ 8 + (1 + 11) + rm_PA_length.locals ≤ R.locals) : CallB R s args own idx y_PA_length b_PA_length 1 (some .int) w_PA_length rm_PA_length 0 0 1 ∧ (Cond.static y_PA_length).before args s = true := ⟨callB_of 1 hts (gx t_168) rfl rfl rfl (hts _ (List.mem_cons_of_mem _ t_7)) (hts _ (List.mem_cons_of_mem _ hl)) (by decide +kernel) hR, hts _ (List.mem_cons_of_mem _ t_167)⟩
abbrev y_PA_nibble : MethodName := ⟨"NibbleTrie$Path", "nibble", "(II)I"⟩
abbrev b_PA_nibble : ByteArray := prog_2_method_4_code
abbrev w_PA_nibble : List Cond := Cond.code y_PA_nibble b_PA_nibble 2 (some .int) :: tG
def rm_PA_nibble : Room := { frames := 1, cells := 0, slots := 0, locals := 20 }
theorem cb_PA_nibble {R : Room} {s : State} {args : Array Value} {own : String} {idx : Nat} {q : Cond} (hts : ∀ w ∈ q :: tG, w.before args s = true) (hl : Cond.methodLink own idx y_PA_nibble ∈ tG) (hR : rm_PA_nibble.frames + 1 ≤ R.frames ∧ 8 + (2 + 11) + rm_PA_nibble.locals ≤ R.locals) : CallB R s args own idx y_PA_nibble b_PA_nibble 2 (some .int) w_PA_nibble rm_PA_nibble 0 0 2 ∧ (Cond.static y_PA_nibble).before args s = true := ⟨callB_of 2 hts (gx t_184) rfl rfl rfl (hts _ (List.mem_cons_of_mem _ t_7)) (hts _ (List.mem_cons_of_mem _ hl)) (by decide +kernel) hR, hts _ (List.mem_cons_of_mem _ t_183)⟩
abbrev y_PA_front : MethodName := ⟨"NibbleTrie$Path", "front", "(II)I"⟩
abbrev b_PA_front : ByteArray := prog_2_method_5_code
abbrev w_PA_front : List Cond := Cond.code y_PA_front b_PA_front 2 (some .int) :: tG
def rm_PA_front : Room := { frames := 1, cells := 0, slots := 0, locals := 20 }
theorem cb_PA_front {R : Room} {s : State} {args : Array Value} {own : String} {idx : Nat} {q : Cond} (hts : ∀ w ∈ q :: tG, w.before args s = true) (hl : Cond.methodLink own idx y_PA_front ∈ tG) (hR : rm_PA_front.frames + 1 ≤ R.frames ∧ 8 + (2 + 11) + rm_PA_front.locals ≤ R.locals) : CallB R s args own idx y_PA_front b_PA_front 2 (some .int) w_PA_front rm_PA_front 0 0 2 ∧ (Cond.static y_PA_front).before args s = true := ⟨callB_of 2 hts (gx t_250) rfl rfl rfl (hts _ (List.mem_cons_of_mem _ t_7)) (hts _ (List.mem_cons_of_mem _ hl)) (by decide +kernel) hR, hts _ (List.mem_cons_of_mem _ t_249)⟩
abbrev y_PA_without : MethodName := ⟨"NibbleTrie$Path", "without", "(II)I"⟩
abbrev b_PA_without : ByteArray := prog_2_method_6_code
abbrev w_PA_without : List Cond := Cond.code y_PA_without b_PA_without 3 (some .int) :: tG
def rm_PA_without : Room := { frames := 1, cells := 0, slots := 0, locals := 20 }
theorem cb_PA_without {R : Room} {s : State} {args : Array Value} {own : String} {idx : Nat} {q : Cond} (hts : ∀ w ∈ q :: tG, w.before args s = true) (hl : Cond.methodLink own idx y_PA_without ∈ tG) (hR : rm_PA_without.frames + 1 ≤ R.frames ∧ 8 + (3 + 11) + rm_PA_without.locals ≤ R.locals) : CallB R s args own idx y_PA_without b_PA_without 3 (some .int) w_PA_without rm_PA_without 0 0 2 ∧ (Cond.static y_PA_without).before args s = true := ⟨callB_of 2 hts (gx t_235) rfl rfl rfl (hts _ (List.mem_cons_of_mem _ t_7)) (hts _ (List.mem_cons_of_mem _ hl)) (by decide +kernel) hR, hts _ (List.mem_cons_of_mem _ t_234)⟩
abbrev y_PA_begins : MethodName := ⟨"NibbleTrie$Path", "begins", "(II)Z"⟩
abbrev b_PA_begins : ByteArray := prog_2_method_7_code
abbrev w_PA_begins : List Cond := Cond.code y_PA_begins b_PA_begins 3 (some .boolean) :: tG
def rm_PA_begins : Room := { frames := 2, cells := 0, slots := 0, locals := 41 }
theorem cb_PA_begins {R : Room} {s : State} {args : Array Value} {own : String} {idx : Nat} {q : Cond} (hts : ∀ w ∈ q :: tG, w.before args s = true) (hl : Cond.methodLink own idx y_PA_begins ∈ tG) (hR : rm_PA_begins.frames + 1 ≤ R.frames ∧ 8 + (3 + 11) + rm_PA_begins.locals ≤ R.locals) : CallB R s args own idx y_PA_begins b_PA_begins 3 (some .boolean) w_PA_begins rm_PA_begins 0 0 2 ∧ (Cond.static y_PA_begins).before args s = true := ⟨callB_of 2 hts (gx t_349) rfl rfl rfl (hts _ (List.mem_cons_of_mem _ t_7)) (hts _ (List.mem_cons_of_mem _ hl)) (by decide +kernel) hR, hts _ (List.mem_cons_of_mem _ t_348)⟩
abbrev y_PA_commonLength : MethodName := ⟨"NibbleTrie$Path", "commonLength", "(II)I"⟩
abbrev b_PA_commonLength : ByteArray := prog_2_method_8_code
abbrev w_PA_commonLength : List Cond := Cond.code y_PA_commonLength b_PA_commonLength 4 (some .int) :: tG
def rm_PA_commonLength : Room := { frames := 2, cells := 0, slots := 0, locals := 41 }
theorem cb_PA_commonLength {R : Room} {s : State} {args : Array Value} {own : String} {idx : Nat} {q : Cond} (hts : ∀ w ∈ q :: tG, w.before args s = true) (hl : Cond.methodLink own idx y_PA_commonLength ∈ tG) (hR : rm_PA_commonLength.frames + 1 ≤ R.frames ∧ 8 + (4 + 11) + rm_PA_commonLength.locals ≤ R.locals) : CallB R s args own idx y_PA_commonLength b_PA_commonLength 4 (some .int) w_PA_commonLength rm_PA_commonLength 0 0 2 ∧ (Cond.static y_PA_commonLength).before args s = true := ⟨callB_of 2 hts (gx t_180) rfl rfl rfl (hts _ (List.mem_cons_of_mem _ t_7)) (hts _ (List.mem_cons_of_mem _ hl)) (by decide +kernel) hR, hts _ (List.mem_cons_of_mem _ t_179)⟩
abbrev y_PA_order : MethodName := ⟨"NibbleTrie$Path", "order", "(I)I"⟩
abbrev b_PA_order : ByteArray := prog_2_method_9_code
abbrev w_PA_order : List Cond := Cond.code y_PA_order b_PA_order 2 (some .int) :: tG
def rm_PA_order : Room := { frames := 1, cells := 0, slots := 0, locals := 20 }
theorem cb_PA_order {R : Room} {s : State} {args : Array Value} {own : String} {idx : Nat} {q : Cond} (hts : ∀ w ∈ q :: tG, w.before args s = true) (hl : Cond.methodLink own idx y_PA_order ∈ tG) (hR : rm_PA_order.frames + 1 ≤ R.frames ∧ 8 + (2 + 11) + rm_PA_order.locals ≤ R.locals) : CallB R s args own idx y_PA_order b_PA_order 2 (some .int) w_PA_order rm_PA_order 0 0 1 ∧ (Cond.static y_PA_order).before args s = true := ⟨callB_of 1 hts (gx t_165) rfl rfl rfl (hts _ (List.mem_cons_of_mem _ t_7)) (hts _ (List.mem_cons_of_mem _ hl)) (by decide +kernel) hR, hts _ (List.mem_cons_of_mem _ t_164)⟩
abbrev y_PM_rowOf : MethodName := ⟨"NibbleTrie$PathMap", "rowOf", "(I)I"⟩
abbrev b_PM_rowOf : ByteArray := prog_3_method_2_code
abbrev w_PM_rowOf : List Cond := Cond.code y_PM_rowOf b_PM_rowOf 3 (some .int) :: tG
def rm_PM_rowOf : Room := { frames := 0, cells := 0, slots := 0, locals := 0 }
theorem cb_PM_rowOf {R : Room} {s : State} {args : Array Value} {own : String} {idx : Nat} {q : Cond} (hts : ∀ w ∈ q :: tG, w.before args s = true) (hl : Cond.methodLink own idx y_PM_rowOf ∈ tG) (hR : rm_PM_rowOf.frames + 1 ≤ R.frames ∧ 8 + (3 + 11) + rm_PM_rowOf.locals ≤ R.locals) : CallW R s args own "NibbleTrie$PathMap" idx y_PM_rowOf b_PM_rowOf 3 (some .int) w_PM_rowOf rm_PM_rowOf 0 0 1 := ⟨callB_of 1 hts (gx t_158) rfl rfl rfl (hts _ (List.mem_cons_of_mem _ t_3)) (hts _ (List.mem_cons_of_mem _ hl)) (by decide +kernel) hR, hts _ (List.mem_cons_of_mem _ t_156), hts _ (List.mem_cons_of_mem _ t_157)⟩
abbrev y_PM_valueOf : MethodName := ⟨"NibbleTrie$PathMap", "valueOf", "(I)I"⟩
abbrev b_PM_valueOf : ByteArray := prog_3_method_3_code
abbrev w_PM_valueOf : List Cond := Cond.code y_PM_valueOf b_PM_valueOf 3 (some .int) :: tG
def rm_PM_valueOf : Room := { frames := 1, cells := 0, slots := 0, locals := 22 }
theorem cb_PM_valueOf {R : Room} {s : State} {args : Array Value} {own : String} {idx : Nat} {q : Cond} (hts : ∀ w ∈ q :: tG, w.before args s = true) (hl : Cond.methodLink own idx y_PM_valueOf ∈ tG) (hR : rm_PM_valueOf.frames + 1 ≤ R.frames ∧ 8 + (3 + 11) + rm_PM_valueOf.locals ≤ R.locals) : CallW R s args own "NibbleTrie$PathMap" idx y_PM_valueOf b_PM_valueOf 3 (some .int) w_PM_valueOf rm_PM_valueOf 0 0 1 := ⟨callB_of 1 hts (gx t_214) rfl rfl rfl (hts _ (List.mem_cons_of_mem _ t_3)) (hts _ (List.mem_cons_of_mem _ hl)) (by decide +kernel) hR, hts _ (List.mem_cons_of_mem _ t_212), hts _ (List.mem_cons_of_mem _ t_213)⟩
abbrev y_PM_insert : MethodName := ⟨"NibbleTrie$PathMap", "insert", "(II)V"⟩
abbrev b_PM_insert : ByteArray := prog_3_method_4_code
abbrev w_PM_insert : List Cond := Cond.code y_PM_insert b_PM_insert 4 none :: tG
def rm_PM_insert : Room := { frames := 2, cells := 0, slots := 0, locals := 41 }
theorem cb_PM_insert {R : Room} {s : State} {args : Array Value} {own : String} {idx : Nat} {q : Cond} (hts : ∀ w ∈ q :: tG, w.before args s = true) (hl : Cond.methodLink own idx y_PM_insert ∈ tG) (hR : rm_PM_insert.frames + 1 ≤ R.frames ∧ 8 + (4 + 11) + rm_PM_insert.locals ≤ R.locals) : CallW R s args own "NibbleTrie$PathMap" idx y_PM_insert b_PM_insert 4 none w_PM_insert rm_PM_insert 0 0 2 := ⟨callB_of 2 hts (gx t_162) rfl rfl rfl (hts _ (List.mem_cons_of_mem _ t_3)) (hts _ (List.mem_cons_of_mem _ hl)) (by decide +kernel) hR, hts _ (List.mem_cons_of_mem _ t_160), hts _ (List.mem_cons_of_mem _ t_161)⟩
abbrev y_PM_remove : MethodName := ⟨"NibbleTrie$PathMap", "remove", "(I)V"⟩
abbrev b_PM_remove : ByteArray := prog_3_method_5_code
abbrev w_PM_remove : List Cond := Cond.code y_PM_remove b_PM_remove 3 none :: tG
def rm_PM_remove : Room := { frames := 0, cells := 0, slots := 0, locals := 0 }
theorem cb_PM_remove {R : Room} {s : State} {args : Array Value} {own : String} {idx : Nat} {q : Cond} (hts : ∀ w ∈ q :: tG, w.before args s = true) (hl : Cond.methodLink own idx y_PM_remove ∈ tG) (hR : rm_PM_remove.frames + 1 ≤ R.frames ∧ 8 + (3 + 11) + rm_PM_remove.locals ≤ R.locals) : CallW R s args own "NibbleTrie$PathMap" idx y_PM_remove b_PM_remove 3 none w_PM_remove rm_PM_remove 0 0 1 := ⟨callB_of 1 hts (gx t_206) rfl rfl rfl (hts _ (List.mem_cons_of_mem _ t_3)) (hts _ (List.mem_cons_of_mem _ hl)) (by decide +kernel) hR, hts _ (List.mem_cons_of_mem _ t_204), hts _ (List.mem_cons_of_mem _ t_205)⟩
abbrev y_PM_copy : MethodName := ⟨"NibbleTrie$PathMap", "copy", "(LNibbleTrie$PathMap;)V"⟩
abbrev b_PM_copy : ByteArray := prog_3_method_6_code
abbrev w_PM_copy : List Cond := Cond.code y_PM_copy b_PM_copy 2 none :: tG
def rm_PM_copy : Room := { frames := 1, cells := 0, slots := 0, locals := 26 }
theorem cb_PM_copy {R : Room} {s : State} {args : Array Value} {own : String} {idx : Nat} {q : Cond} (hts : ∀ w ∈ q :: tG, w.before args s = true) (hl : Cond.methodLink own idx y_PM_copy ∈ tG) (hR : rm_PM_copy.frames + 1 ≤ R.frames ∧ 8 + (2 + 11) + rm_PM_copy.locals ≤ R.locals) : CallW R s args own "NibbleTrie$PathMap" idx y_PM_copy b_PM_copy 2 none w_PM_copy rm_PM_copy 0 0 1 := ⟨callB_of 1 hts (gx t_286) rfl rfl rfl (hts _ (List.mem_cons_of_mem _ t_3)) (hts _ (List.mem_cons_of_mem _ hl)) (by decide +kernel) hR, hts _ (List.mem_cons_of_mem _ t_284), hts _ (List.mem_cons_of_mem _ t_285)⟩
abbrev y_PM_endsAt : MethodName := ⟨"NibbleTrie$PathMap", "endsAt", "(II)Z"⟩
abbrev b_PM_endsAt : ByteArray := prog_3_method_7_code
abbrev w_PM_endsAt : List Cond := Cond.code y_PM_endsAt b_PM_endsAt 3 (some .boolean) :: tG
def rm_PM_endsAt : Room := { frames := 1, cells := 0, slots := 0, locals := 20 }
theorem cb_PM_endsAt {R : Room} {s : State} {args : Array Value} {own : String} {idx : Nat} {q : Cond} (hts : ∀ w ∈ q :: tG, w.before args s = true) (hl : Cond.methodLink own idx y_PM_endsAt ∈ tG) (hR : rm_PM_endsAt.frames + 1 ≤ R.frames ∧ 8 + (3 + 11) + rm_PM_endsAt.locals ≤ R.locals) : CallW R s args own "NibbleTrie$PathMap" idx y_PM_endsAt b_PM_endsAt 3 (some .boolean) w_PM_endsAt rm_PM_endsAt 0 0 2 := ⟨callB_of 2 hts (gx t_196) rfl rfl rfl (hts _ (List.mem_cons_of_mem _ t_3)) (hts _ (List.mem_cons_of_mem _ hl)) (by decide +kernel) hR, hts _ (List.mem_cons_of_mem _ t_194), hts _ (List.mem_cons_of_mem _ t_195)⟩
abbrev y_PM_endOfChild : MethodName := ⟨"NibbleTrie$PathMap", "endOfChild", "(IIII)I"⟩
abbrev b_PM_endOfChild : ByteArray := prog_3_method_8_code
abbrev w_PM_endOfChild : List Cond := Cond.code y_PM_endOfChild b_PM_endOfChild 6 (some .int) :: tG
def rm_PM_endOfChild : Room := { frames := 2, cells := 0, slots := 0, locals := 41 }
theorem cb_PM_endOfChild {R : Room} {s : State} {args : Array Value} {own : String} {idx : Nat} {q : Cond} (hts : ∀ w ∈ q :: tG, w.before args s = true) (hl : Cond.methodLink own idx y_PM_endOfChild ∈ tG) (hR : rm_PM_endOfChild.frames + 1 ≤ R.frames ∧ 8 + (6 + 11) + rm_PM_endOfChild.locals ≤ R.locals) : CallW R s args own "NibbleTrie$PathMap" idx y_PM_endOfChild b_PM_endOfChild 6 (some .int) w_PM_endOfChild rm_PM_endOfChild 0 0 4 := ⟨callB_of 4 hts (gx t_201) rfl rfl rfl (hts _ (List.mem_cons_of_mem _ t_3)) (hts _ (List.mem_cons_of_mem _ hl)) (by decide +kernel) hR, hts _ (List.mem_cons_of_mem _ t_199), hts _ (List.mem_cons_of_mem _ t_200)⟩
abbrev y_PF_has : MethodName := ⟨"NibbleTrie$Proof", "has", "(I)Z"⟩
abbrev b_PF_has : ByteArray := prog_4_method_2_code
abbrev w_PF_has : List Cond := Cond.code y_PF_has b_PF_has 2 (some .boolean) :: tG
def rm_PF_has : Room := { frames := 0, cells := 0, slots := 0, locals := 0 }
theorem cb_PF_has {R : Room} {s : State} {args : Array Value} {own : String} {idx : Nat} {q : Cond} (hts : ∀ w ∈ q :: tG, w.before args s = true) (hl : Cond.methodLink own idx y_PF_has ∈ tG) (hR : rm_PF_has.frames + 1 ≤ R.frames ∧ 8 + (2 + 11) + rm_PF_has.locals ≤ R.locals) : CallW R s args own "NibbleTrie$Proof" idx y_PF_has b_PF_has 2 (some .boolean) w_PF_has rm_PF_has 0 0 1 := ⟨callB_of 1 hts (gx t_358) rfl rfl rfl (hts _ (List.mem_cons_of_mem _ t_4)) (hts _ (List.mem_cons_of_mem _ hl)) (by decide +kernel) hR, hts _ (List.mem_cons_of_mem _ t_356), hts _ (List.mem_cons_of_mem _ t_357)⟩
abbrev y_PF_shows : MethodName := ⟨"NibbleTrie$Proof", "shows", "(JIJ)Z"⟩
abbrev b_PF_shows : ByteArray := prog_4_method_3_code
abbrev w_PF_shows : List Cond := Cond.code y_PF_shows b_PF_shows 7 (some .boolean) :: tG
def rm_PF_shows : Room := { frames := 4, cells := 0, slots := 0, locals := 91 }
theorem cb_PF_shows {R : Room} {s : State} {args : Array Value} {own : String} {idx : Nat} {q : Cond} (hts : ∀ w ∈ q :: tG, w.before args s = true) (hl : Cond.methodLink own idx y_PF_shows ∈ tG) (hR : rm_PF_shows.frames + 1 ≤ R.frames ∧ 8 + (7 + 11) + rm_PF_shows.locals ≤ R.locals) : CallW R s args own "NibbleTrie$Proof" idx y_PF_shows b_PF_shows 7 (some .boolean) w_PF_shows rm_PF_shows 0 0 3 := ⟨callB_of 3 hts (gx t_374) rfl rfl rfl (hts _ (List.mem_cons_of_mem _ t_4)) (hts _ (List.mem_cons_of_mem _ hl)) (by decide +kernel) hR, hts _ (List.mem_cons_of_mem _ t_372), hts _ (List.mem_cons_of_mem _ t_373)⟩
abbrev y_PF_end : MethodName := ⟨"NibbleTrie$Proof", "end", "(J)V"⟩
abbrev b_PF_end : ByteArray := prog_4_method_4_code
abbrev w_PF_end : List Cond := Cond.code y_PF_end b_PF_end 3 none :: tG
def rm_PF_end : Room := { frames := 0, cells := 0, slots := 0, locals := 0 }
theorem cb_PF_end {R : Room} {s : State} {args : Array Value} {own : String} {idx : Nat} {q : Cond} (hts : ∀ w ∈ q :: tG, w.before args s = true) (hl : Cond.methodLink own idx y_PF_end ∈ tG) (hR : rm_PF_end.frames + 1 ≤ R.frames ∧ 8 + (3 + 11) + rm_PF_end.locals ≤ R.locals) : CallW R s args own "NibbleTrie$Proof" idx y_PF_end b_PF_end 3 none w_PF_end rm_PF_end 0 0 1 := ⟨callB_of 1 hts (gx t_389) rfl rfl rfl (hts _ (List.mem_cons_of_mem _ t_4)) (hts _ (List.mem_cons_of_mem _ hl)) (by decide +kernel) hR, hts _ (List.mem_cons_of_mem _ t_388), hts _ (List.mem_cons_of_mem _ ts_18)⟩
abbrev y_PF_hasReference : MethodName := ⟨"NibbleTrie$Proof", "hasReference", "(I)Z"⟩
abbrev b_PF_hasReference : ByteArray := prog_4_method_5_code
abbrev w_PF_hasReference : List Cond := Cond.code y_PF_hasReference b_PF_hasReference 2 (some .boolean) :: tG
def rm_PF_hasReference : Room := { frames := 1, cells := 0, slots := 0, locals := 21 }
theorem cb_PF_hasReference {R : Room} {s : State} {args : Array Value} {own : String} {idx : Nat} {q : Cond} (hts : ∀ w ∈ q :: tG, w.before args s = true) (hl : Cond.methodLink own idx y_PF_hasReference ∈ tG) (hR : rm_PF_hasReference.frames + 1 ≤ R.frames ∧ 8 + (2 + 11) + rm_PF_hasReference.locals ≤ R.locals) : CallW R s args own "NibbleTrie$Proof" idx y_PF_hasReference b_PF_hasReference 2 (some .boolean) w_PF_hasReference rm_PF_hasReference 0 0 1 := ⟨callB_of 1 hts (gx t_382) rfl rfl rfl (hts _ (List.mem_cons_of_mem _ t_4)) (hts _ (List.mem_cons_of_mem _ hl)) (by decide +kernel) hR, hts _ (List.mem_cons_of_mem _ t_381), hts _ (List.mem_cons_of_mem _ ts_17)⟩
abbrev y_PF_takeTopReference : MethodName := ⟨"NibbleTrie$Proof", "takeTopReference", "(J)V"⟩
abbrev b_PF_takeTopReference : ByteArray := prog_4_method_6_code
abbrev w_PF_takeTopReference : List Cond := Cond.code y_PF_takeTopReference b_PF_takeTopReference 3 none :: tG
def rm_PF_takeTopReference : Room := { frames := 2, cells := 0, slots := 0, locals := 42 }
theorem cb_PF_takeTopReference {R : Room} {s : State} {args : Array Value} {own : String} {idx : Nat} {q : Cond} (hts : ∀ w ∈ q :: tG, w.before args s = true) (hl : Cond.methodLink own idx y_PF_takeTopReference ∈ tG) (hR : rm_PF_takeTopReference.frames + 1 ≤ R.frames ∧ 8 + (3 + 11) + rm_PF_takeTopReference.locals ≤ R.locals) : CallW R s args own "NibbleTrie$Proof" idx y_PF_takeTopReference b_PF_takeTopReference 3 none w_PF_takeTopReference rm_PF_takeTopReference 0 0 1 := ⟨callB_of 1 hts (gx t_378) rfl rfl rfl (hts _ (List.mem_cons_of_mem _ t_4)) (hts _ (List.mem_cons_of_mem _ hl)) (by decide +kernel) hR, hts _ (List.mem_cons_of_mem _ t_377), hts _ (List.mem_cons_of_mem _ ts_16)⟩
abbrev y_PF_followPair : MethodName := ⟨"NibbleTrie$Proof", "followPair", "(JJ)V"⟩
abbrev b_PF_followPair : ByteArray := prog_4_method_7_code
abbrev w_PF_followPair : List Cond := Cond.code y_PF_followPair b_PF_followPair 9 none :: tG
def rm_PF_followPair : Room := { frames := 3, cells := 0, slots := 0, locals := 63 }
theorem cb_PF_followPair {R : Room} {s : State} {args : Array Value} {own : String} {idx : Nat} {q : Cond} (hts : ∀ w ∈ q :: tG, w.before args s = true) (hl : Cond.methodLink own idx y_PF_followPair ∈ tG) (hR : rm_PF_followPair.frames + 1 ≤ R.frames ∧ 8 + (9 + 11) + rm_PF_followPair.locals ≤ R.locals) : CallW R s args own "NibbleTrie$Proof" idx y_PF_followPair b_PF_followPair 9 none w_PF_followPair rm_PF_followPair 0 0 2 := ⟨callB_of 2 hts (gx t_399) rfl rfl rfl (hts _ (List.mem_cons_of_mem _ t_4)) (hts _ (List.mem_cons_of_mem _ hl)) (by decide +kernel) hR, hts _ (List.mem_cons_of_mem _ t_398), hts _ (List.mem_cons_of_mem _ ts_20)⟩
abbrev y_PF_followDigest : MethodName := ⟨"NibbleTrie$Proof", "followDigest", "(J)V"⟩
abbrev b_PF_followDigest : ByteArray := prog_4_method_8_code
abbrev w_PF_followDigest : List Cond := Cond.code y_PF_followDigest b_PF_followDigest 7 none :: tG
def rm_PF_followDigest : Room := { frames := 2, cells := 0, slots := 0, locals := 42 }
theorem cb_PF_followDigest {R : Room} {s : State} {args : Array Value} {own : String} {idx : Nat} {q : Cond} (hts : ∀ w ∈ q :: tG, w.before args s = true) (hl : Cond.methodLink own idx y_PF_followDigest ∈ tG) (hR : rm_PF_followDigest.frames + 1 ≤ R.frames ∧ 8 + (7 + 11) + rm_PF_followDigest.locals ≤ R.locals) : CallW R s args own "NibbleTrie$Proof" idx y_PF_followDigest b_PF_followDigest 7 none w_PF_followDigest rm_PF_followDigest 0 0 1 := ⟨callB_of 1 hts (gx t_393) rfl rfl rfl (hts _ (List.mem_cons_of_mem _ t_4)) (hts _ (List.mem_cons_of_mem _ hl)) (by decide +kernel) hR, hts _ (List.mem_cons_of_mem _ t_392), hts _ (List.mem_cons_of_mem _ ts_19)⟩
abbrev y_TR_change : MethodName := ⟨"NibbleTrie$Trie", "change", "(II)I"⟩
abbrev b_TR_change : ByteArray := prog_5_method_2_code
abbrev w_TR_change : List Cond := Cond.code y_TR_change b_TR_change 5 (some .int) :: tG
def rm_TR_change : Room := { frames := 30, cells := 0, slots := 0, locals := 975 }
theorem cb_TR_change {R : Room} {s : State} {args : Array Value} {own : String} {idx : Nat} {q : Cond} (hts : ∀ w ∈ q :: tG, w.before args s = true) (hl : Cond.methodLink own idx y_TR_change ∈ tG) (hR : rm_TR_change.frames + 1 ≤ R.frames ∧ 8 + (5 + 11) + rm_TR_change.locals ≤ R.locals) : CallW R s args own "NibbleTrie$Trie" idx y_TR_change b_TR_change 5 (some .int) w_TR_change rm_TR_change 0 0 2 := ⟨callB_of 2 hts (gx t_154) rfl rfl rfl (hts _ (List.mem_cons_of_mem _ t_2)) (hts _ (List.mem_cons_of_mem _ hl)) (by decide +kernel) hR, hts _ (List.mem_cons_of_mem _ t_152), hts _ (List.mem_cons_of_mem _ t_153)⟩
abbrev y_TR_becomeLike : MethodName := ⟨"NibbleTrie$Trie", "becomeLike", "(LNibbleTrie$Trie;)V"⟩
abbrev b_TR_becomeLike : ByteArray := prog_5_method_3_code
abbrev w_TR_becomeLike : List Cond := Cond.code y_TR_becomeLike b_TR_becomeLike 2 none :: tG
def rm_TR_becomeLike : Room := { frames := 2, cells := 0, slots := 0, locals := 47 }
theorem cb_TR_becomeLike {R : Room} {s : State} {args : Array Value} {own : String} {idx : Nat} {q : Cond} (hts : ∀ w ∈ q :: tG, w.before args s = true) (hl : Cond.methodLink own idx y_TR_becomeLike ∈ tG) (hR : rm_TR_becomeLike.frames + 1 ≤ R.frames ∧ 8 + (2 + 11) + rm_TR_becomeLike.locals ≤ R.locals) : CallW R s args own "NibbleTrie$Trie" idx y_TR_becomeLike b_TR_becomeLike 2 none w_TR_becomeLike rm_TR_becomeLike 0 0 1 := ⟨callB_of 1 hts (gx t_282) rfl rfl rfl (hts _ (List.mem_cons_of_mem _ t_2)) (hts _ (List.mem_cons_of_mem _ hl)) (by decide +kernel) hR, hts _ (List.mem_cons_of_mem _ t_280), hts _ (List.mem_cons_of_mem _ t_281)⟩
abbrev y_TR_list : MethodName := ⟨"NibbleTrie$Trie", "list", "()V"⟩
abbrev b_TR_list : ByteArray := prog_5_method_4_code
abbrev w_TR_list : List Cond := Cond.code y_TR_list b_TR_list 1 none :: tG
def rm_TR_list : Room := { frames := 29, cells := 0, slots := 0, locals := 955 }
theorem cb_TR_list {R : Room} {s : State} {args : Array Value} {own : String} {idx : Nat} {q : Cond} (hts : ∀ w ∈ q :: tG, w.before args s = true) (hl : Cond.methodLink own idx y_TR_list ∈ tG) (hR : rm_TR_list.frames + 1 ≤ R.frames ∧ 8 + (1 + 11) + rm_TR_list.locals ≤ R.locals) : CallW R s args own "NibbleTrie$Trie" idx y_TR_list b_TR_list 1 none w_TR_list rm_TR_list 0 0 0 := ⟨callB_of 0 hts (gx t_173) rfl rfl rfl (hts _ (List.mem_cons_of_mem _ t_2)) (hts _ (List.mem_cons_of_mem _ hl)) (by decide +kernel) hR, hts _ (List.mem_cons_of_mem _ t_172), hts _ (List.mem_cons_of_mem _ ts_0)⟩
abbrev y_TR_listPart : MethodName := ⟨"NibbleTrie$Trie", "listPart", "(IIII)V"⟩
abbrev b_TR_listPart : ByteArray := prog_5_method_5_code
abbrev w_TR_listPart : List Cond := Cond.code y_TR_listPart b_TR_listPart 6 none :: tG
def rm_TR_listPart (d : Nat) : Room := { frames := 2 * d + 10, cells := 0, slots := 0, locals := 70 * d + 300 }
theorem cb_TR_listPart {R : Room} {s : State} {args : Array Value} {own : String} {idx : Nat} {q : Cond} {d : Nat} (hts : ∀ w ∈ q :: tG, w.before args s = true) (hl : Cond.methodLink own idx y_TR_listPart ∈ tG) (hR : (rm_TR_listPart d).frames + 1 ≤ R.frames ∧ 8 + (6 + 11) + (rm_TR_listPart d).locals ≤ R.locals) : CallW R s args own "NibbleTrie$Trie" idx y_TR_listPart b_TR_listPart 6 none w_TR_listPart (rm_TR_listPart d) 0 0 4 := ⟨callB_of 4 hts (gx t_177) rfl rfl rfl (hts _ (List.mem_cons_of_mem _ t_2)) (hts _ (List.mem_cons_of_mem _ hl)) (by decide +kernel) hR, hts _ (List.mem_cons_of_mem _ t_176), hts _ (List.mem_cons_of_mem _ ts_1)⟩
abbrev y_TR_listBranch : MethodName := ⟨"NibbleTrie$Trie", "listBranch", "(IIII)V"⟩
abbrev b_TR_listBranch : ByteArray := prog_5_method_6_code
abbrev w_TR_listBranch : List Cond := Cond.code y_TR_listBranch b_TR_listBranch 9 none :: tG
def rm_TR_listBranch (d : Nat) : Room := { frames := 2 * d + 11, cells := 0, slots := 0, locals := 70 * d + 335 }
theorem cb_TR_listBranch {R : Room} {s : State} {args : Array Value} {own : String} {idx : Nat} {q : Cond} {d : Nat} (hts : ∀ w ∈ q :: tG, w.before args s = true) (hl : Cond.methodLink own idx y_TR_listBranch ∈ tG) (hR : (rm_TR_listBranch d).frames + 1 ≤ R.frames ∧ 8 + (9 + 11) + (rm_TR_listBranch d).locals ≤ R.locals) : CallW R s args own "NibbleTrie$Trie" idx y_TR_listBranch b_TR_listBranch 9 none w_TR_listBranch (rm_TR_listBranch d) 0 0 4 := ⟨callB_of 4 hts (gx t_188) rfl rfl rfl (hts _ (List.mem_cons_of_mem _ t_2)) (hts _ (List.mem_cons_of_mem _ hl)) (by decide +kernel) hR, hts _ (List.mem_cons_of_mem _ t_187), hts _ (List.mem_cons_of_mem _ ts_2)⟩
abbrev y_TR_firstChildRow : MethodName := ⟨"NibbleTrie$Trie", "firstChildRow", "(II)I"⟩
abbrev b_TR_firstChildRow : ByteArray := prog_5_method_7_code
abbrev w_TR_firstChildRow : List Cond := Cond.code y_TR_firstChildRow b_TR_firstChildRow 3 (some .int) :: tG
def rm_TR_firstChildRow : Room := { frames := 2, cells := 0, slots := 0, locals := 42 }
theorem cb_TR_firstChildRow {R : Room} {s : State} {args : Array Value} {own : String} {idx : Nat} {q : Cond} (hts : ∀ w ∈ q :: tG, w.before args s = true) (hl : Cond.methodLink own idx y_TR_firstChildRow ∈ tG) (hR : rm_TR_firstChildRow.frames + 1 ≤ R.frames ∧ 8 + (3 + 11) + rm_TR_firstChildRow.locals ≤ R.locals) : CallW R s args own "NibbleTrie$Trie" idx y_TR_firstChildRow b_TR_firstChildRow 3 (some .int) w_TR_firstChildRow rm_TR_firstChildRow 0 0 2 := ⟨callB_of 2 hts (gx t_192) rfl rfl rfl (hts _ (List.mem_cons_of_mem _ t_2)) (hts _ (List.mem_cons_of_mem _ hl)) (by decide +kernel) hR, hts _ (List.mem_cons_of_mem _ t_191), hts _ (List.mem_cons_of_mem _ ts_3)⟩
abbrev y_TR_rootNumber : MethodName := ⟨"NibbleTrie$Trie", "rootNumber", "()J"⟩
abbrev b_TR_rootNumber : ByteArray := prog_5_method_8_code
abbrev w_TR_rootNumber : List Cond := Cond.code y_TR_rootNumber b_TR_rootNumber 2 (some .long) :: tG
def rm_TR_rootNumber : Room := { frames := 38, cells := 0, slots := 0, locals := 1228 }
theorem cb_TR_rootNumber {R : Room} {s : State} {args : Array Value} {own : String} {idx : Nat} {q : Cond} (hts : ∀ w ∈ q :: tG, w.before args s = true) (hl : Cond.methodLink own idx y_TR_rootNumber ∈ tG) (hR : rm_TR_rootNumber.frames + 1 ≤ R.frames ∧ 8 + (2 + 11) + rm_TR_rootNumber.locals ≤ R.locals) : CallW R s args own "NibbleTrie$Trie" idx y_TR_rootNumber b_TR_rootNumber 2 (some .long) w_TR_rootNumber rm_TR_rootNumber 0 0 0 := ⟨callB_of 0 hts (gx t_227) rfl rfl rfl (hts _ (List.mem_cons_of_mem _ t_2)) (hts _ (List.mem_cons_of_mem _ hl)) (by decide +kernel) hR, hts _ (List.mem_cons_of_mem _ t_225), hts _ (List.mem_cons_of_mem _ t_226)⟩
abbrev y_TR_digestOf : MethodName := ⟨"NibbleTrie$Trie", "digestOf", "(I)J"⟩
abbrev b_TR_digestOf : ByteArray := prog_5_method_9_code
abbrev w_TR_digestOf : List Cond := Cond.code y_TR_digestOf b_TR_digestOf 2 (some .long) :: tG
def rm_TR_digestOf : Room := { frames := 40, cells := 0, slots := 0, locals := 1295 }
theorem cb_TR_digestOf {R : Room} {s : State} {args : Array Value} {own : String} {idx : Nat} {q : Cond} (hts : ∀ w ∈ q :: tG, w.before args s = true) (hl : Cond.methodLink own idx y_TR_digestOf ∈ tG) (hR : rm_TR_digestOf.frames + 1 ≤ R.frames ∧ 8 + (2 + 11) + rm_TR_digestOf.locals ≤ R.locals) : CallW R s args own "NibbleTrie$Trie" idx y_TR_digestOf b_TR_digestOf 2 (some .long) w_TR_digestOf rm_TR_digestOf 0 0 1 := ⟨callB_of 1 hts (gx t_334) rfl rfl rfl (hts _ (List.mem_cons_of_mem _ t_2)) (hts _ (List.mem_cons_of_mem _ hl)) (by decide +kernel) hR, hts _ (List.mem_cons_of_mem _ t_332), hts _ (List.mem_cons_of_mem _ t_333)⟩
abbrev y_TR_branchDigest : MethodName := ⟨"NibbleTrie$Trie", "branchDigest", "(III)J"⟩
abbrev b_TR_branchDigest : ByteArray := prog_5_method_10_code
abbrev w_TR_branchDigest : List Cond := Cond.code y_TR_branchDigest b_TR_branchDigest 6 (some .long) :: tG
def rm_TR_branchDigest (d : Nat) : Room := { frames := 3 * d + 12, cells := 0, slots := 0, locals := 100 * d + 370 }
theorem cb_TR_branchDigest {R : Room} {s : State} {args : Array Value} {own : String} {idx : Nat} {q : Cond} {d : Nat} (hts : ∀ w ∈ q :: tG, w.before args s = true) (hl : Cond.methodLink own idx y_TR_branchDigest ∈ tG) (hR : (rm_TR_branchDigest d).frames + 1 ≤ R.frames ∧ 8 + (6 + 11) + (rm_TR_branchDigest d).locals ≤ R.locals) : CallW R s args own "NibbleTrie$Trie" idx y_TR_branchDigest b_TR_branchDigest 6 (some .long) w_TR_branchDigest (rm_TR_branchDigest d) 0 0 3 := ⟨callB_of 3 hts (gx t_239) rfl rfl rfl (hts _ (List.mem_cons_of_mem _ t_2)) (hts _ (List.mem_cons_of_mem _ hl)) (by decide +kernel) hR, hts _ (List.mem_cons_of_mem _ t_238), hts _ (List.mem_cons_of_mem _ ts_5)⟩
abbrev y_TR_writeBranch : MethodName := ⟨"NibbleTrie$Trie", "writeBranch", "(III[JI)I"⟩
abbrev b_TR_writeBranch : ByteArray := prog_5_method_11_code
abbrev w_TR_writeBranch : List Cond := Cond.code y_TR_writeBranch b_TR_writeBranch 11 (some .int) :: tG
def rm_TR_writeBranch (d : Nat) : Room := { frames := 3 * d + 11, cells := 0, slots := 0, locals := 100 * d + 335 }
theorem cb_TR_writeBranch {R : Room} {s : State} {args : Array Value} {own : String} {idx : Nat} {q : Cond} {d : Nat} (hts : ∀ w ∈ q :: tG, w.before args s = true) (hl : Cond.methodLink own idx y_TR_writeBranch ∈ tG) (hR : (rm_TR_writeBranch d).frames + 1 ≤ R.frames ∧ 8 + (11 + 11) + (rm_TR_writeBranch d).locals ≤ R.locals) : CallW R s args own "NibbleTrie$Trie" idx y_TR_writeBranch b_TR_writeBranch 11 (some .int) w_TR_writeBranch (rm_TR_writeBranch d) 0 0 5 := ⟨callB_of 5 hts (gx t_243) rfl rfl rfl (hts _ (List.mem_cons_of_mem _ t_2)) (hts _ (List.mem_cons_of_mem _ hl)) (by decide +kernel) hR, hts _ (List.mem_cons_of_mem _ t_242), hts _ (List.mem_cons_of_mem _ ts_6)⟩
abbrev y_TR_writeReference : MethodName := ⟨"NibbleTrie$Trie", "writeReference", "(III[JI)I"⟩
abbrev b_TR_writeReference : ByteArray := prog_5_method_12_code
abbrev w_TR_writeReference : List Cond := Cond.code y_TR_writeReference b_TR_writeReference 9 (some .int) :: tG
def rm_TR_writeReference (d : Nat) : Room := { frames := 3 * d + 10, cells := 0, slots := 0, locals := 100 * d + 300 }
theorem cb_TR_writeReference {R : Room} {s : State} {args : Array Value} {own : String} {idx : Nat} {q : Cond} {d : Nat} (hts : ∀ w ∈ q :: tG, w.before args s = true) (hl : Cond.methodLink own idx y_TR_writeReference ∈ tG) (hR : (rm_TR_writeReference d).frames + 1 ≤ R.frames ∧ 8 + (9 + 11) + (rm_TR_writeReference d).locals ≤ R.locals) : CallW R s args own "NibbleTrie$Trie" idx y_TR_writeReference b_TR_writeReference 9 (some .int) w_TR_writeReference (rm_TR_writeReference d) 0 0 5 := ⟨callB_of 5 hts (gx t_231) rfl rfl rfl (hts _ (List.mem_cons_of_mem _ t_2)) (hts _ (List.mem_cons_of_mem _ hl)) (by decide +kernel) hR, hts _ (List.mem_cons_of_mem _ t_230), hts _ (List.mem_cons_of_mem _ ts_4)⟩
abbrev y_TR_writeProof : MethodName := ⟨"NibbleTrie$Trie", "writeProof", "(I[J)I"⟩
abbrev b_TR_writeProof : ByteArray := prog_5_method_13_code
abbrev w_TR_writeProof : List Cond := Cond.code y_TR_writeProof b_TR_writeProof 6 (some .int) :: tG
def rm_TR_writeProof : Room := { frames := 39, cells := 0, slots := 0, locals := 1265 }
theorem cb_TR_writeProof {R : Room} {s : State} {args : Array Value} {own : String} {idx : Nat} {q : Cond} (hts : ∀ w ∈ q :: tG, w.before args s = true) (hl : Cond.methodLink own idx y_TR_writeProof ∈ tG) (hR : rm_TR_writeProof.frames + 1 ≤ R.frames ∧ 8 + (6 + 11) + rm_TR_writeProof.locals ≤ R.locals) : CallW R s args own "NibbleTrie$Trie" idx y_TR_writeProof b_TR_writeProof 6 (some .int) w_TR_writeProof rm_TR_writeProof 0 0 2 := ⟨callB_of 2 hts (gx t_342) rfl rfl rfl (hts _ (List.mem_cons_of_mem _ t_2)) (hts _ (List.mem_cons_of_mem _ hl)) (by decide +kernel) hR, hts _ (List.mem_cons_of_mem _ t_340), hts _ (List.mem_cons_of_mem _ t_341)⟩
abbrev y_TR_pathTo : MethodName := ⟨"NibbleTrie$Trie", "pathTo", "(I)I"⟩
abbrev b_TR_pathTo : ByteArray := prog_5_method_14_code
abbrev w_TR_pathTo : List Cond := Cond.code y_TR_pathTo b_TR_pathTo 2 (some .int) :: tG
def rm_TR_pathTo : Room := { frames := 2, cells := 0, slots := 0, locals := 41 }
theorem cb_TR_pathTo {R : Room} {s : State} {args : Array Value} {own : String} {idx : Nat} {q : Cond} (hts : ∀ w ∈ q :: tG, w.before args s = true) (hl : Cond.methodLink own idx y_TR_pathTo ∈ tG) (hR : rm_TR_pathTo.frames + 1 ≤ R.frames ∧ 8 + (2 + 11) + rm_TR_pathTo.locals ≤ R.locals) : CallW R s args own "NibbleTrie$Trie" idx y_TR_pathTo b_TR_pathTo 2 (some .int) w_TR_pathTo rm_TR_pathTo 0 0 1 := ⟨callB_of 1 hts (gx t_346) rfl rfl rfl (hts _ (List.mem_cons_of_mem _ t_2)) (hts _ (List.mem_cons_of_mem _ hl)) (by decide +kernel) hR, hts _ (List.mem_cons_of_mem _ t_345), hts _ (List.mem_cons_of_mem _ ts_15)⟩
abbrev y_TR_hasAmongFirst : MethodName := ⟨"NibbleTrie$Trie", "hasAmongFirst", "(ILNibbleTrie$Trie;I)Z"⟩
abbrev b_TR_hasAmongFirst : ByteArray := prog_5_method_15_code
abbrev w_TR_hasAmongFirst : List Cond := Cond.code y_TR_hasAmongFirst b_TR_hasAmongFirst 5 (some .boolean) :: tG
def rm_TR_hasAmongFirst : Room := { frames := 3, cells := 0, slots := 0, locals := 71 }
theorem cb_TR_hasAmongFirst {R : Room} {s : State} {args : Array Value} {own : String} {idx : Nat} {q : Cond} (hts : ∀ w ∈ q :: tG, w.before args s = true) (hl : Cond.methodLink own idx y_TR_hasAmongFirst ∈ tG) (hR : rm_TR_hasAmongFirst.frames + 1 ≤ R.frames ∧ 8 + (5 + 11) + rm_TR_hasAmongFirst.locals ≤ R.locals) : CallW R s args own "NibbleTrie$Trie" idx y_TR_hasAmongFirst b_TR_hasAmongFirst 5 (some .boolean) w_TR_hasAmongFirst rm_TR_hasAmongFirst 0 0 3 := ⟨callB_of 3 hts (gx t_266) rfl rfl rfl (hts _ (List.mem_cons_of_mem _ t_2)) (hts _ (List.mem_cons_of_mem _ hl)) (by decide +kernel) hR, hts _ (List.mem_cons_of_mem _ t_264), hts _ (List.mem_cons_of_mem _ t_265)⟩
abbrev y_TR_isSame : MethodName := ⟨"NibbleTrie$Trie", "isSame", "(ILNibbleTrie$Trie;I)Z"⟩
abbrev b_TR_isSame : ByteArray := prog_5_method_16_code
abbrev w_TR_isSame : List Cond := Cond.code y_TR_isSame b_TR_isSame 10 (some .boolean) :: tG
def rm_TR_isSame : Room := { frames := 2, cells := 0, slots := 0, locals := 42 }
theorem cb_TR_isSame {R : Room} {s : State} {args : Array Value} {own : String} {idx : Nat} {q : Cond} (hts : ∀ w ∈ q :: tG, w.before args s = true) (hl : Cond.methodLink own idx y_TR_isSame ∈ tG) (hR : rm_TR_isSame.frames + 1 ≤ R.frames ∧ 8 + (10 + 11) + rm_TR_isSame.locals ≤ R.locals) : CallW R s args own "NibbleTrie$Trie" idx y_TR_isSame b_TR_isSame 10 (some .boolean) w_TR_isSame rm_TR_isSame 0 0 3 := ⟨callB_of 3 hts (gx t_270) rfl rfl rfl (hts _ (List.mem_cons_of_mem _ t_2)) (hts _ (List.mem_cons_of_mem _ hl)) (by decide +kernel) hR, hts _ (List.mem_cons_of_mem _ t_269), hts _ (List.mem_cons_of_mem _ ts_8)⟩
