/-! Maps as lists of entries: the class's rows, the reference's rows; looking a key up. -/
abbrev Ent : Type := List Nat × Int32
/-- the rows of a map, at place o of the arrays A (paths) and V (values) -/
def Rows (M : Mm) (A V o : Nat) (es : List Ent) : Prop := ∀ (i : Nat) (h : i < es.length), gi M A (o + i) = nI (num es[i].1) ∧ gi M V (o + i) = es[i].2
/-- where a number stands among the rows: its place from i on, or -1 -/
def fd (v : Int32) : List Ent → Nat → Int32
  | [], _ => -1
  | e :: r, i => if nI (num e.1) = v then nI i else fd v r (i + 1)
def vals (v : Int32) : List Ent → Int32
  | [] => 0
  | e :: r => if nI (num e.1) = v then e.2 else vals v r
theorem fd_or (v : Int32) : ∀ (es : List Ent) (i : Nat), i + es.length < 2 ^ 31 → (fd v es i = -1 ∧ vals v es = 0 ∧ ∀ e ∈ es, nI (num e.1) ≠ v) ∨ ∃ (j : Nat) (h : j < es.length), fd v es i = nI (i + j) ∧ nI (num es[j].1) = v ∧ vals v es = es[j].2 := by
  intro es
  induction es with
  | nil => intro i _; exact Or.inl ⟨rfl, rfl, fun e he => by cases he⟩
  | cons e r ih =>
    intro i hi
    by_cases h : nI (num e.1) = v
    · refine Or.inr ⟨0, by simp, ?_, h, ?_⟩
      · rw [fd, if_pos h]; rfl
      · rw [vals, if_pos h]; rfl
    · rw [fd, if_neg h, vals, if_neg h]
      rcases ih (i + 1) (by simp at hi; omega) with ⟨h1, h2, h3⟩ | ⟨j, hj, h1, h2, h3⟩
      · exact Or.inl ⟨h1, h2, fun e' he' => by
          rcases List.mem_cons.mp he' with rfl | he'
          · exact h
          · exact h3 e' he'⟩
      · exact Or.inr ⟨j + 1, by simp; omega, by rw [h1]; congr 1; omega, h2, h3⟩
/-- the class's map at the PathMap a -/
def RepM (G : Nat → Nat) (M : Mm) (a : Nat) (es : List Ent) : Prop := es.length ≤ 16 ∧ G (gr M a 0) = 16 ∧ G (gr M a 1) = 16 ∧ gi M a 2 = nI es.length ∧ Rows M (gr M a 0) (gr M a 1) 0 es
theorem drop_at {α : Type} {l r : List α} {e : α} {i : Nat} (h : l.drop i = e :: r) : ∃ hi : i < l.length, l[i] = e ∧ l.drop (i + 1) = r := by
  have hi : i < l.length := by
    apply Classical.byContradiction
    intro q
    rw [List.drop_eq_nil_of_le (by omega)] at h
    cases h
  refine ⟨hi, ?_⟩
  rw [List.drop_eq_getElem_cons hi] at h
  exact ⟨(List.cons.inj h).1, (List.cons.inj h).2⟩
theorem rowOf_eq {G : Nat → Nat} {M : Mm} {a : Nat} {es : List Ent} (h : RepM G M a es) (v : Int32) : f_PM_rowOf G a v M = some (fd v es 0) := by
  obtain ⟨h1, h2, h3, h4, h5⟩ := h
  have go : ∀ (l : List Ent) (i f : Nat), es.drop i = l → i ≤ es.length → f_PM_rowOf_2 G (l.length + f + 1) a v (nI i) M = some (fd v l i) := by
    intro l
    induction l with
    | nil =>
      intro i f hd hi
      have : es.length ≤ i := by
        have := congrArg List.length hd
        rw [List.length_drop] at this
        simp at this
        omega
      rw [f_PM_rowOf_2, h4, if_pos ((nI_leI (by omega) (by omega)).mpr this)]
      rfl
    | cons e r ih =>
      intro i f hd hi
      obtain ⟨hlt, he, hr⟩ := drop_at hd
      have hp := (h5 i hlt).1
      rw [Nat.zero_add] at hp
      rw [show (e :: r).length + f + 1 = (r.length + f + 1) + 1 by simp; omega, f_PM_rowOf_2, h4, if_neg (fun z => by have := (nI_leI (by omega) (by omega)).mp z; omega), h2, ix_nI (by omega) (by decide), Option.bind_some, hp, he, fd]
      by_cases hv : nI (num e.1) = v
      · rw [if_pos hv, if_pos hv]
      · rw [if_neg hv, if_neg hv, show nI i + 1 = nI (i + 1) from nI_add i 1]
        exact ih (i + 1) f hr (by omega)
  unfold f_PM_rowOf
  have := go es 0 (4095 - es.length) rfl (by omega)
  rw [nI_0, show es.length + (4095 - es.length) + 1 = FU by unfold FU; omega] at this
  exact this
theorem m1_ne {j : Nat} (h : j < 2 ^ 31) : nI j ≠ (-1 : Int32) := fun e => by
  have h1 : (nI j).toInt = -1 := by rw [e]; decide
  rw [nI_toInt h] at h1
  omega
theorem valueOf_eq {G : Nat → Nat} {M : Mm} {a : Nat} {es : List Ent} (h : RepM G M a es) (v : Int32) : f_PM_valueOf G a v M = some (vals v es) := by
  unfold f_PM_valueOf
  rw [rowOf_eq h, Option.bind_some]
  obtain ⟨h1, h2, h3, h4, h5⟩ := h
  rcases fd_or v es 0 (by omega) with ⟨e1, e2, -⟩ | ⟨j, hj, e1, e2, e3⟩
  · rw [e1, e2, if_pos rfl]
  · rw [e1, e3, Nat.zero_add, if_neg (m1_ne (by omega)), h3, ix_nI (by omega) (by decide), Option.bind_some]
    have := (h5 j hj).2
    rw [Nat.zero_add] at this
    rw [this]
/-- the reference's map m -/
def RepK (M : Mm) (um : Nat → Nat) (m : Nat) (ks : List Ent) : Prop := ks.length ≤ 16 ∧ gi M (um 2) m = nI ks.length ∧ Rows M (um 0) (um 1) (16 * m) ks
theorem m16 {m i : Nat} : (16 : Int32) * nI m + nI i = nI (16 * m + i) := by rw [show (16 : Int32) = nI 16 from rfl, pk_mul, nI_add]
theorem find_eq {G : Nat → Nat} {M : Mm} {mo m : Nat} {um : Nat → Nat} {ks : List Ent} (hR : ModelR G M mo um) (hm : m < 4) (h : RepK M um m ks) (v : Int32) : f_MO_find G mo (nI m) v M = some (fd v ks (16 * m)) := by
  obtain ⟨r0, r1, r2, r3, r4, r5, r6, r7, g0, g1, g2, -⟩ := hR
  obtain ⟨h1, h4, h5⟩ := h
  have go : ∀ (l : List Ent) (i f : Nat), ks.drop i = l → i ≤ ks.length → f_MO_find_2 G (l.length + f + 1) mo (nI m) v (nI i) M = some (fd v l (16 * m + i)) := by
    intro l
    induction l with
    | nil =>
      intro i f hd hi
      have : ks.length ≤ i := by
        have := congrArg List.length hd
        rw [List.length_drop] at this
        simp at this
        omega
      rw [f_MO_find_2, r2, g2, ix_nI hm (by decide), Option.bind_some, h4, if_pos ((nI_leI (by omega) (by omega)).mpr this)]
      rfl
    | cons e r ih =>
      intro i f hd hi
      obtain ⟨hlt, he, hr⟩ := drop_at hd
      have hp := (h5 i hlt).1
      rw [show (e :: r).length + f + 1 = (r.length + f + 1) + 1 by simp; omega, f_MO_find_2, r2, g2, ix_nI hm (by decide), Option.bind_some, h4, if_neg (fun z => by have := (nI_leI (by omega) (by omega)).mp z; omega), m16, r0, g0, ix_nI (by omega) (by decide), Option.bind_some, hp, he, fd]
      by_cases hv : nI (num e.1) = v
      · rw [if_pos hv, if_pos hv]
      · rw [if_neg hv, if_neg hv, show nI i + 1 = nI (i + 1) from nI_add i 1]
        exact ih (i + 1) f hr (by omega)
  unfold f_MO_find
  have := go ks 0 (4095 - ks.length) rfl (by omega)
  rw [nI_0, show ks.length + (4095 - ks.length) + 1 = FU by unfold FU; omega] at this
  exact this
theorem valueIn_eq {G : Nat → Nat} {M : Mm} {mo m : Nat} {um : Nat → Nat} {ks : List Ent} (hR : ModelR G M mo um) (hm : m < 4) (h : RepK M um m ks) (v : Int32) : f_MO_valueIn G mo (nI m) v M = some (vals v ks) := by
  unfold f_MO_valueIn
  rw [find_eq hR hm h, Option.bind_some]
  obtain ⟨r0, r1, r2, r3, r4, r5, r6, r7, g0, g1, g2, -⟩ := hR
  obtain ⟨h1, h4, h5⟩ := h
  rcases fd_or v ks (16 * m) (by omega) with ⟨e1, e2, -⟩ | ⟨j, hj, e1, e2, e3⟩
  · rw [e1, e2, if_neg (by decide)]
  · rw [e1, e3, if_pos (nI_pos' (by omega)), r1, g1, ix_nI (by omega) (by decide), Option.bind_some, (h5 j hj).2]
/-- the value of a key doesn't ask for the rows' order, if no key stands there twice -/
def Keys (es : List Ent) : Prop := (∀ e ∈ es, nb e.1) ∧ es.Pairwise (fun a b => a.1 ≠ b.1)
theorem vals_none {v : Int32} : ∀ {es : List Ent}, (∀ e ∈ es, nI (num e.1) ≠ v) → vals v es = 0 := by
  intro es
  induction es with
  | nil => intro _; rfl
  | cons e r ih => intro h; rw [vals, if_neg (h e List.mem_cons_self)]; exact ih (fun e' he' => h e' (List.mem_cons_of_mem _ he'))
theorem vals_mem {v : Int32} : ∀ {es : List Ent}, Keys es → ∀ e ∈ es, nI (num e.1) = v → vals v es = e.2 := by
  intro es
  induction es with
  | nil => intro _ e he; cases he
  | cons d r ih =>
    intro hk e he hv
    rw [vals]
    rcases List.mem_cons.mp he with rfl | he
    · rw [if_pos hv]
    · have hd : nI (num d.1) ≠ v := fun q => by
        have hne := (List.pairwise_cons.mp hk.2).1 e he
        apply hne
        have b1 := hk.1 d List.mem_cons_self
        have b2 := hk.1 e (List.mem_cons_of_mem _ he)
        have s1 := num_sm b1
        have s2 := num_sm b2
        exact num_inj' b1.2 b2.2 ((nI_eq (by omega) (by omega)).mp (q.trans hv.symm))
      rw [if_neg hd]
      exact ih ⟨fun e' he' => hk.1 e' (List.mem_cons_of_mem _ he'), (List.pairwise_cons.mp hk.2).2⟩ e he hv
theorem Keys.perm {es ks : List Ent} (h : es.Perm ks) (hk : Keys es) : Keys ks := ⟨fun e he => hk.1 e (h.mem_iff.mpr he), h.pairwise hk.2 (fun hab hba => hab hba.symm)⟩
theorem vals_perm {es ks : List Ent} (h : es.Perm ks) (hk : Keys es) (v : Int32) : vals v es = vals v ks := by
  by_cases hv : ∃ e ∈ es, nI (num e.1) = v
  · obtain ⟨e, he, hv⟩ := hv
    rw [vals_mem hk e he hv, vals_mem (hk.perm h) e (h.mem_iff.mp he) hv]
  · have h1 : ∀ e ∈ es, nI (num e.1) ≠ v := fun e he q => hv ⟨e, he, q⟩
    rw [vals_none h1, vals_none (fun e he => h1 e (h.mem_iff.mpr he))]
