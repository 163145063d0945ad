/-! The words that a trie's methods write. -/
def TrS (G : Nat → Nat) (M : Mm) (z : Nat) (u : Nat → Nat) : Prop := (gr M z 0 = u 0 ∧ gr M (u 0) 0 = u 1 ∧ gr M (u 0) 1 = u 2 ∧ gr M z 4 = u 3 ∧ gr M z 5 = u 4 ∧ gr M z 6 = u 5 ∧ gr M z 7 = u 6 ∧ gr M z 8 = u 7 ∧ gr M z 9 = u 8 ∧ ∀ j, j < 4 → gr M (u 8) j = u (9 + j)) ∧ (G (u 1) = 16 ∧ G (u 2) = 16 ∧ G (u 3) = 15 ∧ G (u 4) = 15 ∧ G (u 5) = 15 ∧ G (u 6) = 15 ∧ G (u 7) = 2 ∧ G (u 8) = 4 ∧ ∀ j, j < 4 → G (u (9 + j)) = 49) ∧ (∀ i j, i < 13 → j < 13 → u i = u j → i = j) ∧ (∀ i, i < 13 → z ≠ u i)
def TrM (G : Nat → Nat) (M : Mm) (z : Nat) (u : Nat → Nat) (L : List Ent) : Prop := TrS G M z u ∧ RepM G M (u 0) L ∧ Srt L
def At (L : List Ent) (fr : Nat) (Z : List Ent) : Prop := ∀ (i : Nat) (e : Ent), Z[i]? = some e → L[fr + i]? = some e
def wr (f : Nat → Int64) (s : Nat) (ws : List Int64) : Nat → Int64 := fun i => if s ≤ i ∧ i < s + ws.length then ws.getD (i - s) 0 else f i
def restK (A : List Ent) (c n : Nat) : List Ent := (List.range' c n).flatMap (kid A)
theorem wr_nil {f : Nat → Int64} {s : Nat} : wr f s [] = f := by
  funext i
  unfold wr
  rw [if_neg (fun q => by have h1 := q.1; have h2 := q.2; rw [List.length_nil] at h2; omega)]
theorem wr_app {f : Nat → Int64} {s : Nat} {a b : List Int64} : wr (wr f s a) (s + a.length) b = wr f s (a ++ b) := by
  funext i
  unfold wr
  by_cases h1 : s + a.length ≤ i ∧ i < s + a.length + b.length
  · rw [if_pos h1, if_pos (by rw [List.length_append]; omega)]
    simp only [List.getD_eq_getElem?_getD]
    rw [List.getElem?_append_right (by omega), show i - s - a.length = i - (s + a.length) by omega]
  · rw [if_neg h1]
    by_cases h2 : s ≤ i ∧ i < s + a.length
    · rw [if_pos h2, if_pos (by rw [List.length_append]; omega)]
      simp only [List.getD_eq_getElem?_getD]
      rw [List.getElem?_append_left (by omega)]
    · rw [if_neg h2, if_neg (by rw [List.length_append]; omega)]
theorem wr_one {f : Nat → Int64} {s : Nat} {x : Int64} : (fun i => if i = s then x else f i) = wr f s [x] := by
  funext i
  unfold wr
  by_cases h : i = s
  · rw [if_pos h, if_pos (by simp; omega), h, Nat.sub_self]; rfl
  · rw [if_neg h, if_neg (by simp; omega)]
theorem wr_cons {f : Nat → Int64} {s : Nat} {x : Int64} {r : List Int64} : (fun i => if i = s then x else wr f (s + 1) r i) = wr f s (x :: r) := by
  funext i
  unfold wr
  by_cases h : i = s
  · rw [if_pos h, if_pos (by simp; omega), h, Nat.sub_self]; rfl
  · rw [if_neg h]
    by_cases h2 : s + 1 ≤ i ∧ i < s + 1 + r.length
    · rw [if_pos h2, if_pos (by rw [List.length_cons]; omega), show i - s = (i - (s + 1)) + 1 by omega]
      rfl
    · rw [if_neg h2, if_neg (by rw [List.length_cons]; omega)]
theorem wr_at {f : Nat → Int64} {s i : Nat} {ws : List Int64} (h : i < ws.length) : wr f s ws (s + i) = ws[i] := by
  unfold wr
  rw [if_pos (by omega), Nat.add_sub_cancel_left]
  simp [List.getD_eq_getElem?_getD, h]
theorem sl_row {M : Mm} {w p : Nat} {x : Int64} : (sl M w p x).2.1 w = fun i => if i = p then x else M.2.1 w i := by
  funext i
  show (if w = w ∧ i = p then x else M.2.1 w i) = _
  by_cases h : i = p
  · rw [if_pos ⟨rfl, h⟩, if_pos h]
  · rw [if_neg (fun q => h q.2), if_neg h]
/-- what a writing method leaves: ints and addresses as they were, words ws at place s of w, nothing else but the drafts from k on -/
def WrS (u : Nat → Nat) (M M2 : Mm) (k w s : Nat) (ws : List Int64) : Prop := M2.1 = M.1 ∧ M2.2.2 = M.2.2 ∧ (∀ c, c ≠ w → (∀ j, k ≤ j → j < 4 → c ≠ u (9 + j)) → M2.2.1 c = M.2.1 c) ∧ M2.2.1 w = wr (M.2.1 w) s ws
theorem WrS.nil {u : Nat → Nat} {M : Mm} {k w s : Nat} : WrS u M M k w s [] := ⟨rfl, rfl, fun _ _ _ => rfl, wr_nil.symm⟩
theorem WrS.app {u : Nat → Nat} {M M1 M2 : Mm} {k w s : Nat} {a b : List Int64} (h : WrS u M M1 k w s a) (g : WrS u M1 M2 k w (s + a.length) b) : WrS u M M2 k w s (a ++ b) := ⟨g.1.trans h.1, g.2.1.trans h.2.1, fun c h1 h2 => (g.2.2.1 c h1 h2).trans (h.2.2.1 c h1 h2), by rw [g.2.2.2, h.2.2.2, wr_app]⟩
theorem WrS.one {u : Nat → Nat} {M : Mm} {k w s : Nat} {x : Int64} : WrS u M (sl M w s x) k w s [x] := ⟨rfl, rfl, fun c h1 _ => sl_ne h1, by rw [sl_row, wr_one]⟩
theorem WrS.cons {u : Nat → Nat} {M M1 : Mm} {k w s : Nat} {x : Int64} {r : List Int64} (h : WrS u M M1 k w (s + 1) r) : WrS u M (sl M1 w s x) k w s (x :: r) := ⟨h.1, h.2.1, fun c h1 h2 => (sl_ne h1).trans (h.2.2.1 c h1 h2), by rw [sl_row, h.2.2.2, wr_cons]⟩
theorem WrS.up {u : Nat → Nat} {M M1 : Mm} {k k' w s : Nat} {r : List Int64} (h : WrS u M M1 k w s r) (hk : k' ≤ k) : WrS u M M1 k' w s r := ⟨h.1, h.2.1, fun c h1 h2 => h.2.2.1 c h1 (fun j a b => h2 j (by omega) b), h.2.2.2⟩
theorem TrM.mv {G : Nat → Nat} {M M2 : Mm} {z : Nat} {u : Nat → Nat} {L : List Ent} (h : TrM G M z u L) (h1 : M2.1 = M.1) (h2 : M2.2.2 = M.2.2) : TrM G M2 z u L := by
  unfold TrM TrS RepM Rows gi gr at *
  rw [h1, h2]
  exact h
theorem at_app {L X Y : List Ent} {fr : Nat} (h : At L fr (X ++ Y)) : At L fr X ∧ At L (fr + X.length) Y := by
  refine ⟨fun i e he => h i e ?_, fun i e he => ?_⟩
  · have := (List.getElem?_eq_some_iff.mp he).1
    rw [List.getElem?_append_left this]
    exact he
  · rw [Nat.add_assoc]
    apply h
    rw [List.getElem?_append_right (by omega), Nat.add_sub_cancel_left]
    exact he
theorem ab_len {P : List Nat} {A : List Ent} : (ab P A).length = A.length := List.length_map _
theorem ab_app {P : List Nat} {A B : List Ent} : ab P (A ++ B) = ab P A ++ ab P B := List.map_append
theorem ab_kid {Q : List Nat} {A : List Ent} {c : Nat} : ab Q (kid A c) = ab (Q ++ [c]) (sub c A) := by
  unfold kid ab
  rw [List.map_map]
  refine List.map_congr_left (fun e _ => ?_)
  show (Q ++ ([c] ++ e.1), e.2) = _
  rw [List.append_assoc]
theorem ab_strip {P p : List Nat} {A : List Ent} {k : Nat} (h : ∀ e ∈ A, k ≤ e.1.length ∧ e.1.take k = p) : ab P A = ab (P ++ p) (strip k A) := by
  unfold strip ab
  rw [List.map_map]
  refine List.map_congr_left (fun e he => ?_)
  show (P ++ e.1, e.2) = (P ++ p ++ e.1.drop k, e.2)
  rw [List.append_assoc, ← (h e he).2, List.take_append_drop]
theorem ab_at {P : List Nat} {A : List Ent} {i : Nat} {e : Ent} (h : A[i]? = some e) : (ab P A)[i]? = some (P ++ e.1, e.2) := by
  unfold ab
  rw [List.getElem?_map, h]
  rfl
theorem at_pth {L A : List Ent} {fr : Nat} {P : List Nat} (ha : At L fr (ab P A)) {i : Nat} {e : Ent} (he : A[i]? = some e) : pth L (fr + i) = P ++ e.1 ∧ fr + i < L.length := by
  have := ha i _ (ab_at he)
  exact ⟨pth_eq this, (List.getElem?_eq_some_iff.mp this).1⟩
theorem hdk_at {A : List Ent} (h : 1 ≤ A.length) : A[0]? = some (hdk A, hdv A) := by
  cases A with
  | nil => simp at h
  | cons a r => rfl
theorem ltk_at {A : List Ent} (h : 1 ≤ A.length) : ∃ v, A[A.length - 1]? = some (ltk A, v) := by
  have hne : A ≠ [] := fun q => by rw [q] at h; simp at h
  refine ⟨(A.getLast hne).2, ?_⟩
  unfold ltk
  rw [List.getLast?_eq_some_getLast hne, ← List.getLast?_eq_getElem?, List.getLast?_eq_some_getLast hne]
  rfl
theorem restK_mem {A : List Ent} {c n : Nat} {e : Ent} (h : e ∈ restK A c n) : ∃ c' q, c ≤ c' ∧ c' < c + n ∧ e.1 = c' :: q := by
  obtain ⟨c', hc, he⟩ := List.mem_flatMap.mp h
  obtain ⟨d, hd, rfl⟩ := List.mem_map.mp he
  have := List.mem_range'_1.mp hc
  exact ⟨c', d.1, this.1, this.2, rfl⟩
theorem restK_succ {A : List Ent} {c n : Nat} : restK A c (n + 1) = kid A c ++ restK A (c + 1) n := by
  unfold restK
  rw [List.range'_succ, List.flatMap_cons]
theorem SDK {A : List Ent} (h : Srt A) : A = own A ++ restK A 0 16 := by
  have := SD A h
  rw [List.range_eq_range'] at this
  exact this
theorem kid_len {A : List Ent} {c : Nat} : (kid A c).length = (sub c A).length := ab_len
/-- where a child's rows end -/
theorem eoc_val {es : List Ent} {tk c : Nat} : ∀ (m k row : Nat), m ≤ k → (∀ i, i < m → (pth es (row + i))[tk]? = some c) → (m = k ∨ (pth es (row + m))[tk]? ≠ some c) → eoc es tk c k row = row + m := by
  intro m
  induction m with
  | zero =>
    intro k row hk _ h
    cases k with
    | zero => rfl
    | succ k =>
      unfold eoc
      rw [if_neg]
      · rfl
      · rcases h with h | h
        · omega
        · exact h
  | succ m ih =>
    intro k row hk h1 h2
    cases k with
    | zero => omega
    | succ k =>
      unfold eoc
      rw [if_pos (by have := h1 0 (by omega); rw [Nat.add_zero] at this; exact this), ih k (row + 1) (by omega) (fun i hi => by have := h1 (i + 1) (by omega); rw [show row + (i + 1) = row + 1 + i by omega] at this; exact this) (by
        rcases h2 with h2 | h2
        · left; omega
        · right; rw [show row + 1 + m = row + (m + 1) by omega]; exact h2)]
      omega
section CW
variable {G : Nat → Nat} {M : Mm} {z : Nat} {u : Nat → Nat} {L : List Ent}
theorem child_end (h : TrM G M z u L) {Q : List Nat} {A : List Ent} {c n row : Nat} (ha : At L row (ab Q (restK A c (n + 1)))) (hc : c + n + 1 = 16) : f_PM_endOfChild G (u 0) (nI row) (nI (row + (restK A c (n + 1)).length)) (nI Q.length) (nI c) M = some (nI (row + (sub c A).length)) := by
  have hlen : (restK A c (n + 1)).length = (sub c A).length + (restK A (c + 1) n).length := by rw [restK_succ, List.length_append, kid_len]
  by_cases h0 : (restK A c (n + 1)).length = 0
  · unfold f_PM_endOfChild
    rw [h0, FUs, f_PM_endOfChild_3, Nat.add_zero, if_pos (Int32.le_refl _), show (sub c A).length = 0 by omega, Nat.add_zero]
  have hg : ∀ i, i < (restK A c (n + 1)).length → ∃ c' q, c ≤ c' ∧ pth L (row + i) = Q ++ c' :: q ∧ row + i < L.length := fun i hi => by
    obtain ⟨c', q, h1, -, h3⟩ := restK_mem (List.getElem_mem hi)
    have := at_pth ha (List.getElem?_eq_getElem hi)
    exact ⟨c', q, h1, by rw [this.1, h3], this.2⟩
  have hen : row + (restK A c (n + 1)).length ≤ L.length := by
    obtain ⟨_, _, _, _, q⟩ := hg ((restK A c (n + 1)).length - 1) (by omega)
    omega
  rw [endOfChild_eq h.2.1 h.2.2.1 (by omega) hen (by omega) (fun i h1 h2 => by
    obtain ⟨c', q, _, h4, _⟩ := hg (i - row) (by omega)
    rw [show row + (i - row) = i by omega] at h4
    rw [h4]
    simp)]
  congr 2
  rw [show row + (restK A c (n + 1)).length - row = (restK A c (n + 1)).length by omega]
  refine eoc_val _ _ _ (by omega) (fun i hi => ?_) ?_
  · have hi2 : (kid A c)[i]? = some ([c] ++ (sub c A)[i].1, (sub c A)[i].2) := ab_at (List.getElem?_eq_getElem hi)
    rw [restK_succ, ab_app] at ha
    have := at_pth (at_app ha).1 hi2
    rw [this.1]
    simp
  · by_cases q : (sub c A).length = (restK A c (n + 1)).length
    · exact Or.inl q
    · right
      have hi : 0 < (restK A (c + 1) n).length := by omega
      obtain ⟨c', q, h1, -, h3⟩ := restK_mem (List.getElem_mem hi)
      rw [restK_succ, ab_app] at ha
      have := at_pth (at_app ha).2 (List.getElem?_eq_getElem hi)
      rw [ab_len, kid_len, Nat.add_zero] at this
      rw [this.1, h3]
      simp
      omega
theorem first_child (h : TrM G M z u L) {Q : List Nat} {A : List Ent} {fr : Nat} (ha : At L fr (ab Q A)) (hA : Srt A) (h1 : 1 ≤ A.length) (hQ : Q.length ≤ 4) : f_TR_firstChildRow G z (nI fr) (nI Q.length) M = some (nI (fr + (own A).length)) := by
  have hp : pth L fr = Q ++ hdk A ∧ fr < L.length := at_pth ha (hdk_at h1)
  rw [firstChildRow_eq h.1.1.1 h.2.1 h.2.2.1 hp.2 (by omega)]
  unfold fcr
  rw [hp.1, own_eq hA, List.length_append]
  have hne : A ≠ [] := fun q => by rw [q] at h1; simp at h1
  by_cases e : hdk A = []
  · rw [if_pos (by rw [e]; rfl), if_pos ⟨e, hne⟩]; rfl
  · have : (hdk A).length ≠ 0 := fun q => e (List.length_eq_zero_iff.mp q)
    rw [if_neg (by omega), if_neg (fun q => e q.1)]; rfl
theorem ends_at (h : TrM G M z u L) {Q : List Nat} {A : List Ent} {fr : Nat} (ha : At L fr (ab Q A)) (h1 : 1 ≤ A.length) (hQ : Q.length ≤ 4) : f_PM_endsAt G (u 0) (nI fr) (nI Q.length) M = some (if hdk A = [] then 1 else 0) := by
  have hp : pth L fr = Q ++ hdk A ∧ fr < L.length := at_pth ha (hdk_at h1)
  rw [endsAt_eq h.2.1 h.2.2.1 hp.2 (by omega), hp.1, List.length_append]
  by_cases e : hdk A = []
  · rw [if_pos (by rw [e]; rfl), if_pos e]
  · have : (hdk A).length ≠ 0 := fun q => e (List.length_eq_zero_iff.mp q)
    rw [if_neg (by omega), if_neg e]
theorem row_at (h : TrM G M z u L) {P : List Nat} {A : List Ent} {fr i : Nat} {e : Ent} (ha : At L fr (ab P A)) (he : A[i]? = some e) : gi M (u 1) (fr + i) = nI (num (P ++ e.1)) ∧ gi M (u 2) (fr + i) = e.2 ∧ fr + i < 16 ∧ nb (P ++ e.1) := by
  have h2 := ha i _ (ab_at he)
  have h3 := rows_iff.mp h.2.1.2.2.2.2 (fr + i) _ h2
  rw [Nat.zero_add, h.1.1.2.1, h.1.1.2.2.1] at h3
  have h4 := (List.getElem?_eq_some_iff.mp h2).1
  have h5 := h.2.1.1
  exact ⟨h3.1, h3.2, by omega, h.2.2.1 _ (List.mem_of_getElem? h2)⟩
end CW
theorem dig_mix (x y : Int64) : (st ((x ^^^ y) * (-7046029254386353131)) fun x2 => st (x2 ^^^ (x2.toUInt64 >>> ((29 : Int32).toInt64.toUInt64 &&& Int64.toUInt64 63)).toInt64) fun x3 => x3) = f_MO_mixed x y := rfl
theorem digest_eq {G : Nat → Nat} {M : Mm} {w s : Nat} {ws : List Int64} (hs : s + ws.length ≤ G w) (hG : G w < 2 ^ 31) (hl : ws.length ≤ 4000) (h : ∀ (i : Nat) (hi : i < ws.length), gl M w (s + i) = ws[i]) : f_NT_digest G w (nI s) (nI ws.length) M = some (dig ws) := by
  have go : ∀ (r : List Int64) (i f : Nat) (x : Int64), ws.drop i = r → i ≤ ws.length → f_NT_digest_6 G (r.length + f + 1) w (nI s) (nI ws.length) x (nI (s + i)) M = some (r.foldl f_MO_mixed x) := by
    intro r
    induction r with
    | nil =>
      intro i f x hd hi
      have : i = ws.length := by
        have := congrArg List.length hd
        rw [List.length_drop] at this
        simp at this
        omega
      subst this
      rw [f_NT_digest_6, nI_add, if_pos (Int32.le_refl _)]
      rfl
    | cons y r ih =>
      intro i f x hd hi
      have hlt : i < ws.length := by
        have := congrArg List.length hd
        rw [List.length_drop] at this
        simp at this
        omega
      rw [List.drop_eq_getElem_cons hlt] at hd
      obtain ⟨hy, hr⟩ := List.cons.inj hd
      rw [show (y :: r).length + f + 1 = (r.length + f + 1) + 1 by simp; omega, f_NT_digest_6, nI_add, if_neg (nI_ge (by omega) (by omega)), ix_nI (by omega) hG, Option.bind_some, h i hlt, hy]
      simp only [st]
      rw [nI_1, show s + i + 1 = s + (i + 1) by omega]
      exact ih (i + 1) f _ hr (by omega)
  unfold f_NT_digest
  have := go ws 0 (4095 - ws.length) (nI ws.length).toInt64 rfl (by omega)
  rw [Nat.add_zero, show ws.length + (4095 - ws.length) + 1 = FU by unfold FU; omega] at this
  exact this
theorem ref_len (D : List Ent → Int64) (A : List Ent) : (refW D A).length ≤ 2 := by
  unfold refW
  repeat' split
  all_goals simp
theorem cwd_len (D : List Ent → Int64) (A : List Ent) (c : Nat) : (cwd D A c).length ≤ 3 := by
  unfold cwd
  have := ref_len D (sub c A)
  simp
  omega
theorem cwds_len (D : List Ent → Int64) (A : List Ent) : ∀ n c, ((List.range' c n).flatMap (cwd D A)).length ≤ 3 * n := by
  intro n
  induction n with
  | zero => intro c; simp
  | succ n ih =>
    intro c
    rw [List.range'_succ, List.flatMap_cons, List.length_append]
    have := ih (c + 1)
    have := cwd_len D A c
    omega
theorem enc_len (D : List Ent → Int64) (A : List Ent) : (encW D A).length ≤ 49 := by
  unfold encW
  have := cwds_len D A 16 0
  rw [List.length_append, List.range_eq_range', List.length_singleton]
  omega
