/-! Names: classes, their fields, the words that stay. -/
def tG : List Cond := lw_tbl.filter goodWord
theorem tg_of {i : Nat} {w : Cond} (h : tables_1[i]? = some w) (g : goodWord w = true) : w ∈ tG := List.mem_filter.mpr ⟨List.mem_append_right _ (List.mem_of_getElem? h), g⟩
theorem ts_of {i : Nat} {w : Cond} (h : (k2_sels lw_privs)[i]? = some w) (g : goodWord w = true) : w ∈ tG := List.mem_filter.mpr ⟨List.mem_append_left _ (List.mem_of_getElem? h), g⟩
theorem gx {q : Cond} {y : MethodName} {b : ByteArray} {n : Nat} {r : Option FieldType} (h : Cond.code y b n r ∈ tG) : GoodIn (q :: tG) (Cond.code y b n r :: tG) := fun w hw => by
  rcases List.mem_cons.mp hw with rfl | hw
  · exact ⟨List.mem_cons_of_mem _ h, good_of_word (List.mem_filter.mp h).2⟩
  · exact ⟨List.mem_cons_of_mem _ hw, good_of_word (List.mem_filter.mp hw).2⟩
abbrev R_PM : String := "NibbleTrie$PathMap"
def F_PM : u_T := fun k => match k with
  | 0 => ("NibbleTrie$PathMap", "paths", "[I", true)
  | 1 => ("NibbleTrie$PathMap", "values", "[I", true)
  | _ => ("NibbleTrie$PathMap", "rows", "I", false)
def T_PM : Nat → FieldType := fun k => match k with
  | 0 => .array .int
  | 1 => .array .int
  | _ => .int
theorem n_PM : ∀ a, a < 3 → ∀ b, b < 3 → a ≠ b → (F_PM a).2.1 ≠ (F_PM b).2.1 := by decide +kernel
theorem T_PM_ok : ∀ k, k < 3 → parseFieldDescriptor (F_PM k).2.2.1 = some (T_PM k) := by decide +kernel
theorem in_PM : ∀ w ∈ u_ws R_PM F_PM 3, w ∈ tG := by decide +kernel
abbrev R_PF : String := "NibbleTrie$Proof"
def F_PF : u_T := fun k => match k with
  | 0 => ("NibbleTrie$Proof", "words", "[J", true)
  | 1 => ("NibbleTrie$Proof", "length", "I", false)
  | 2 => ("NibbleTrie$Proof", "state", "I", false)
  | 3 => ("NibbleTrie$Proof", "next", "I", false)
  | 4 => ("NibbleTrie$Proof", "left", "I", false)
  | 5 => ("NibbleTrie$Proof", "reference", "I", false)
  | 6 => ("NibbleTrie$Proof", "referenceWords", "I", false)
  | _ => ("NibbleTrie$Proof", "shown", "J", false)
def T_PF : Nat → FieldType := fun k => match k with
  | 0 => .array .long
  | 1 => .int
  | 2 => .int
  | 3 => .int
  | 4 => .int
  | 5 => .int
  | 6 => .int
  | _ => .long
theorem n_PF : ∀ a, a < 8 → ∀ b, b < 8 → a ≠ b → (F_PF a).2.1 ≠ (F_PF b).2.1 := by decide +kernel
theorem T_PF_ok : ∀ k, k < 8 → parseFieldDescriptor (F_PF k).2.2.1 = some (T_PF k) := by decide +kernel
theorem in_PF : ∀ w ∈ u_ws R_PF F_PF 8, w ∈ tG := by decide +kernel
abbrev R_TR : String := "NibbleTrie$Trie"
def F_TR : u_T := fun k => match k with
  | 0 => ("NibbleTrie$Trie", "map", "LNibbleTrie$PathMap;", true)
  | 1 => ("NibbleTrie$Trie", "leaves", "I", false)
  | 2 => ("NibbleTrie$Trie", "extensions", "I", false)
  | 3 => ("NibbleTrie$Trie", "branches", "I", false)
  | 4 => ("NibbleTrie$Trie", "parent", "[I", true)
  | 5 => ("NibbleTrie$Trie", "firstRow", "[I", true)
  | 6 => ("NibbleTrie$Trie", "endRow", "[I", true)
  | 7 => ("NibbleTrie$Trie", "depth", "[I", true)
  | 8 => ("NibbleTrie$Trie", "topReference", "[J", true)
  | _ => ("NibbleTrie$Trie", "drafts", "[[J", true)
def T_TR : Nat → FieldType := fun k => match k with
  | 0 => .object "NibbleTrie$PathMap"
  | 1 => .int
  | 2 => .int
  | 3 => .int
  | 4 => .array .int
  | 5 => .array .int
  | 6 => .array .int
  | 7 => .array .int
  | 8 => .array .long
  | _ => .array (.array .long)
theorem n_TR : ∀ a, a < 10 → ∀ b, b < 10 → a ≠ b → (F_TR a).2.1 ≠ (F_TR b).2.1 := by decide +kernel
theorem T_TR_ok : ∀ k, k < 10 → parseFieldDescriptor (F_TR k).2.2.1 = some (T_TR k) := by decide +kernel
theorem in_TR : ∀ w ∈ u_ws R_TR F_TR 10, w ∈ tG := by decide +kernel
abbrev R_NT : String := "NibbleTrie"
def F_NT : u_T := fun k => match k with
  | 0 => ("NibbleTrie", "working", "LNibbleTrie$Trie;", true)
  | 1 => ("NibbleTrie", "kept", "[LNibbleTrie$Trie;", true)
  | 2 => ("NibbleTrie", "keptNow", "I", false)
  | _ => ("NibbleTrie", "proof", "LNibbleTrie$Proof;", true)
def T_NT : Nat → FieldType := fun k => match k with
  | 0 => .object "NibbleTrie$Trie"
  | 1 => .array (.object "NibbleTrie$Trie")
  | 2 => .int
  | _ => .object "NibbleTrie$Proof"
theorem n_NT : ∀ a, a < 4 → ∀ b, b < 4 → a ≠ b → (F_NT a).2.1 ≠ (F_NT b).2.1 := by decide +kernel
theorem T_NT_ok : ∀ k, k < 4 → parseFieldDescriptor (F_NT k).2.2.1 = some (T_NT k) := by decide +kernel
theorem in_NT : ∀ w ∈ u_ws R_NT F_NT 4, w ∈ tG := by decide +kernel
abbrev R_MO : String := "NibbleTrieModel"
def F_MO : u_T := fun k => match k with
  | 0 => ("NibbleTrieModel", "keys", "[I", true)
  | 1 => ("NibbleTrieModel", "values", "[I", true)
  | 2 => ("NibbleTrieModel", "sizes", "[I", true)
  | 3 => ("NibbleTrieModel", "kept", "I", false)
  | 4 => ("NibbleTrieModel", "many", "I", false)
  | 5 => ("NibbleTrieModel", "branch", "[I", true)
  | 6 => ("NibbleTrieModel", "digest", "[J", true)
  | 7 => ("NibbleTrieModel", "branches", "[I", true)
  | 8 => ("NibbleTrieModel", "words", "[J", true)
  | 9 => ("NibbleTrieModel", "length", "I", false)
  | 10 => ("NibbleTrieModel", "proof", "[J", true)
  | 11 => ("NibbleTrieModel", "proofLength", "I", false)
  | 12 => ("NibbleTrieModel", "at", "I", false)
  | 13 => ("NibbleTrieModel", "first", "J", false)
  | 14 => ("NibbleTrieModel", "second", "J", false)
  | 15 => ("NibbleTrieModel", "count", "I", false)
  | _ => ("NibbleTrieModel", "path", "I", false)
def T_MO : Nat → FieldType := fun k => match k with
  | 0 => .array .int
  | 1 => .array .int
  | 2 => .array .int
  | 3 => .int
  | 4 => .int
  | 5 => .array .int
  | 6 => .array .long
  | 7 => .array .int
  | 8 => .array .long
  | 9 => .int
  | 10 => .array .long
  | 11 => .int
  | 12 => .int
  | 13 => .long
  | 14 => .long
  | 15 => .int
  | _ => .int
theorem n_MO : ∀ a, a < 17 → ∀ b, b < 17 → a ≠ b → (F_MO a).2.1 ≠ (F_MO b).2.1 := by decide +kernel
theorem T_MO_ok : ∀ k, k < 17 → parseFieldDescriptor (F_MO k).2.2.1 = some (T_MO k) := by decide +kernel
theorem in_MO : ∀ w ∈ u_ws R_MO F_MO 17, w ∈ tG := by decide +kernel
abbrev classes : List vw_C := [(R_PM, F_PM, 3), (R_PF, F_PF, 8), (R_TR, F_TR, 10), (R_NT, F_NT, 4), (R_MO, F_MO, 17)]
