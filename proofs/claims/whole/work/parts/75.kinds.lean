/-! Kinds of branches: relative maps; sums over the first of each kind. -/
def Ans (x : Option Int32) (P : Prop) : Prop := (x = some 1 ∧ P) ∨ (x = some 0 ∧ ¬ P)
theorem Ans.iff {x : Option Int32} {P Q : Prop} (h : Ans x P) (e : P ↔ Q) : Ans x Q := by
  rcases h with ⟨a, b⟩ | ⟨a, b⟩
  · exact Or.inl ⟨a, e.mp b⟩
  · exact Or.inr ⟨a, fun q => b (e.mpr q)⟩
noncomputable def fsum (g : List Ent → Nat) : List (List Ent) → List (List Ent) → Nat
  | _, [] => 0
  | s, a :: l => (@ite Nat (a ∈ s) (Classical.propDecidable _) 0 (g a)) + fsum g (a :: s) l
noncomputable def ded : List (List Ent) → List (List Ent) → List (List Ent)
  | _, [] => []
  | s, a :: l => (@ite (List (List Ent)) (a ∈ s) (Classical.propDecidable _) [] [a]) ++ ded (a :: s) l
theorem fsum_nil {g : List Ent → Nat} {s : List (List Ent)} : fsum g s [] = 0 := by rw [fsum]
theorem fsum_in {g : List Ent → Nat} {s l : List (List Ent)} {a : List Ent} (h : a ∈ s) : fsum g s (a :: l) = fsum g (a :: s) l := by rw [fsum, if_pos h, Nat.zero_add]
theorem fsum_out {g : List Ent → Nat} {s l : List (List Ent)} {a : List Ent} (h : a ∉ s) : fsum g s (a :: l) = g a + fsum g (a :: s) l := by rw [fsum, if_neg h]
theorem fsum_seen {g : List Ent → Nat} : ∀ (l s s' : List (List Ent)), (∀ x, x ∈ s ↔ x ∈ s') → fsum g s l = fsum g s' l := by
  intro l
  induction l with
  | nil => intro s s' _; rw [fsum_nil, fsum_nil]
  | cons a l ih =>
    intro s s' h
    have e := ih (a :: s) (a :: s') (fun x => by rw [List.mem_cons, List.mem_cons, h x])
    by_cases c : a ∈ s
    · rw [fsum_in c, fsum_in ((h a).mp c), e]
    · rw [fsum_out c, fsum_out (fun q => c ((h a).mpr q)), e]
theorem fsum_perm {g : List Ent → Nat} {l l' : List (List Ent)} (h : l.Perm l') : ∀ s, fsum g s l = fsum g s l' := by
  induction h with
  | nil => intro s; rfl
  | @cons x a b _ ih =>
    intro s
    by_cases c : x ∈ s
    · rw [fsum_in c, fsum_in c, ih]
    · rw [fsum_out c, fsum_out c, ih]
  | swap x y l =>
    intro s
    have e : fsum g (x :: y :: s) l = fsum g (y :: x :: s) l := fsum_seen l _ _ (fun z => by simp only [List.mem_cons]; exact or_left_comm)
    by_cases q : x = y
    · subst q; rfl
    · have hx : x ∈ y :: s ↔ x ∈ s := by rw [List.mem_cons]; exact ⟨fun z => z.resolve_left q, Or.inr⟩
      have hy : y ∈ x :: s ↔ y ∈ s := by rw [List.mem_cons]; exact ⟨fun z => z.resolve_left (fun w => q w.symm), Or.inr⟩
      by_cases cx : x ∈ s
      · by_cases cy : y ∈ s
        · rw [fsum_in cy, fsum_in (hx.mpr cx), fsum_in cx, fsum_in (hy.mpr cy), e]
        · rw [fsum_out cy, fsum_in (hx.mpr cx), fsum_in cx, fsum_out (fun z => cy (hy.mp z)), e]
      · by_cases cy : y ∈ s
        · rw [fsum_in cy, fsum_out (fun z => cx (hx.mp z)), fsum_out cx, fsum_in (hy.mpr cy), e]
        · rw [fsum_out cy, fsum_out (fun z => cx (hx.mp z)), fsum_out cx, fsum_out (fun z => cy (hy.mp z)), e]
          omega
  | trans _ _ i1 i2 => intro s; rw [i1, i2]
theorem fsum_app {g : List Ent → Nat} : ∀ (a b s : List (List Ent)), fsum g s (a ++ b) = fsum g s a + fsum g (a ++ s) b := by
  intro a
  induction a with
  | nil => intro b s; rw [List.nil_append, List.nil_append, fsum_nil, Nat.zero_add]
  | cons x a ih =>
    intro b s
    have e : fsum g (a ++ x :: s) b = fsum g (x :: a ++ s) b := fsum_seen b _ _ (fun z => by simp only [List.mem_append, List.mem_cons, List.cons_append]; exact or_left_comm)
    rw [List.cons_append]
    by_cases c : x ∈ s
    · rw [fsum_in c, fsum_in c, ih, e]
    · rw [fsum_out c, fsum_out c, ih, e, Nat.add_assoc]
theorem fsum_cong {g h : List Ent → Nat} : ∀ (l s : List (List Ent)), (∀ x ∈ l, g x = h x) → fsum g s l = fsum h s l := by
  intro l
  induction l with
  | nil => intro s _; rw [fsum_nil, fsum_nil]
  | cons a l ih =>
    intro s hl
    have e := ih (a :: s) (fun x hx => hl x (List.mem_cons_of_mem _ hx))
    by_cases c : a ∈ s
    · rw [fsum_in c, fsum_in c, e]
    · rw [fsum_out c, fsum_out c, e, hl a List.mem_cons_self]
theorem fsum_ded {g : List Ent → Nat} : ∀ (l s : List (List Ent)), fsum g s l = ((ded s l).map g).sum := by
  intro l
  induction l with
  | nil => intro s; rw [fsum_nil, ded]; rfl
  | cons a l ih =>
    intro s
    rw [ded]
    by_cases c : a ∈ s
    · rw [fsum_in c, if_pos c, List.nil_append, ih]
    · rw [fsum_out c, if_neg c, ih]
      rfl
theorem mem_ded : ∀ (l s : List (List Ent)) (x : List Ent), x ∈ ded s l ↔ x ∈ l ∧ x ∉ s := by
  intro l
  induction l with
  | nil => intro s x; rw [ded]; simp
  | cons a l ih =>
    intro s x
    rw [ded, List.mem_append, ih, List.mem_cons, List.mem_cons]
    by_cases c : a ∈ s
    · rw [if_pos c]
      constructor
      · rintro (h | ⟨h1, h2⟩)
        · cases h
        · exact ⟨Or.inr h1, fun q => h2 (Or.inr q)⟩
      · rintro ⟨h1, h2⟩
        have hn : x ≠ a := fun q => h2 (q ▸ c)
        exact Or.inr ⟨h1.resolve_left hn, fun q => q.elim hn h2⟩
    · rw [if_neg c, List.mem_singleton]
      constructor
      · rintro (h | ⟨h1, h2⟩)
        · exact ⟨Or.inl h, fun q => c (h ▸ q)⟩
        · exact ⟨Or.inr h1, fun q => h2 (Or.inr q)⟩
      · rintro ⟨h1, h2⟩
        by_cases e : x = a
        · exact Or.inl e
        · exact Or.inr ⟨h1.resolve_left e, fun q => q.elim e h2⟩
theorem nodup_ded : ∀ (l s : List (List Ent)), (ded s l).Nodup := by
  intro l
  induction l with
  | nil => intro s; rw [ded]; exact List.nodup_nil
  | cons a l ih =>
    intro s
    rw [ded]
    by_cases c : a ∈ s
    · rw [if_pos c]; exact ih _
    · rw [if_neg c]
      exact List.nodup_cons.mpr ⟨fun q => ((mem_ded l (a :: s) a).mp q).2 List.mem_cons_self, ih _⟩
def kd (L : List Ent) : List (List Ent) := (brs L).map (fun r => r.2.1)
theorem kd_at {L : List Ent} {j : Nat} {r : Rec} (h : (brs L)[j]? = some r) : (kd L)[j]? = some r.2.1 := by
  unfold kd
  rw [List.getElem?_map, h]
  rfl
/-! The class: which branches are one. -/
section CK
variable {G : Nat → Nat} {M : Mm} {z y : Nat} {u v : Nat → Nat} {L N A B : List Ent} {P Q : List Nat} {fr gs j1 j2 : Nat}
theorem same_step (h1 : TrM G M z u L) (h2 : TrM G M y v N) (ha : At L fr (ab P A)) (hb : At N gs (ab Q B)) (f4 : gi M (u 4) j1 = nI fr) (f6 : gi M (u 6) j1 = nI P.length) (k4 : gi M (v 4) j2 = nI gs) (k6 : gi M (v 6) j2 = nI Q.length) (hj1 : j1 < 15) (hj2 : j2 < 15) {i f w : Nat} (hw : i < w) (hw2 : w < 2 ^ 31) {e d : Ent} (he : A[i]? = some e) (hd : B[i]? = some d) : f_TR_isSame_38 G (f + 1) z (nI j1) y (nI j2) (nI w) (nI i) M = if nI (num e.1) = nI (num d.1) then (if e.2 = d.2 then f_TR_isSame_38 G f z (nI j1) y (nI j2) (nI w) (nI (i + 1)) M else some 0) else some 0 := by
  obtain ⟨a1, a2, a3, a4⟩ := row_at h1 ha he
  obtain ⟨b1, b2, b3, b4⟩ := row_at h2 hb hd
  obtain ⟨⟨⟨r0, r01, r02, r3, r4, r5, r6, r7, r8, r9⟩, ⟨q1, q2, q3, q4, q5, q6, q7, q8, q9⟩, -⟩, -, -⟩ := h1
  obtain ⟨⟨⟨s0, s01, s02, s3, s4, s5, s6, s7, s8, s9⟩, ⟨t1, t2, t3, t4, t5, t6, t7, t8, t9⟩, -⟩, -, -⟩ := h2
  have w1 : f_PA_without (nI (num (P ++ e.1))) (nI P.length) = nI (num e.1) := by
    rw [PA_without_eq a4 (by rw [List.length_append]; omega), List.drop_left]
  have w2 : f_PA_without (nI (num (Q ++ d.1))) (nI Q.length) = nI (num d.1) := by
    rw [PA_without_eq b4 (by rw [List.length_append]; omega), List.drop_left]
  have i1 : ix (nI j1) 15 = some j1 := ix_nI hj1 (by decide)
  have i2 : ix (nI j2) 15 = some j2 := ix_nI hj2 (by decide)
  have i3 : ix (nI (fr + i)) 16 = some (fr + i) := ix_nI a3 (by decide)
  have i4 : ix (nI (gs + i)) 16 = some (gs + i) := ix_nI b3 (by decide)
  rw [f_TR_isSame_38, if_neg (nI_ge hw hw2)]
  simp only [st, r4, s4, q4, t4, i1, i2, Option.bind_some, f4, k4, nI_add, r0, s0, r01, s01, r02, s02, q1, t1, q2, t2, i3, i4, r6, s6, q6, t6, f6, k6, a1, b1, a2, b2, w1, w2, nI_1]
theorem same_loop (h1 : TrM G M z u L) (h2 : TrM G M y v N) (ha : At L fr (ab P A)) (hb : At N gs (ab Q B)) (f4 : gi M (u 4) j1 = nI fr) (f6 : gi M (u 6) j1 = nI P.length) (k4 : gi M (v 4) j2 = nI gs) (k6 : gi M (v 6) j2 = nI Q.length) (hj1 : j1 < 15) (hj2 : j2 < 15) (hAB : A.length = B.length) (hA : A.length < 2 ^ 31) : ∀ (a b : List Ent) (i f : Nat), A.drop i = a → B.drop i = b → i ≤ A.length → Ans (f_TR_isSame_38 G (a.length + f + 1) z (nI j1) y (nI j2) (nI A.length) (nI i) M) (a = b) := by
  intro a
  induction a with
  | nil =>
    intro b i f da db hi
    have la := congrArg List.length da
    have lb := congrArg List.length db
    rw [List.length_drop] at la lb
    have hb0 : b = [] := List.length_eq_zero_iff.mp (by simp at la; omega)
    refine Or.inl ⟨?_, hb0.symm⟩
    rw [f_TR_isSame_38, if_pos (nI_le (by simp at la; omega) (by omega))]
  | cons e a ih =>
    intro b i f da db hi
    obtain ⟨hlt, he, hr⟩ := drop_at da
    cases b with
    | nil =>
      have lb := congrArg List.length db
      rw [List.length_drop] at lb
      simp at lb
      omega
    | cons d b =>
      obtain ⟨hlt2, he2, hr2⟩ := drop_at db
      have ea : A[i]? = some e := by rw [List.getElem?_eq_getElem hlt, he]
      have eb : B[i]? = some d := by rw [List.getElem?_eq_getElem hlt2, he2]
      have n1 : nb e.1 := by
        have := nb_drop (row_at h1 ha ea).2.2.2 P.length
        rw [List.drop_left] at this
        exact this
      have n2 : nb d.1 := by
        have := nb_drop (row_at h2 hb eb).2.2.2 Q.length
        rw [List.drop_left] at this
        exact this
      rw [show (e :: a).length + f + 1 = (a.length + f + 1) + 1 by simp; omega, same_step h1 h2 ha hb f4 f6 k4 k6 hj1 hj2 hlt hA ea eb]
      by_cases c : e.1 = d.1
      · rw [if_pos ((num_eqI n1 n2).mpr c)]
        by_cases c2 : e.2 = d.2
        · rw [if_pos c2]
          have ed : e = d := Prod.ext c c2
          exact (ih b (i + 1) f hr hr2 (by omega)).iff ⟨fun q => by rw [ed, q], fun q => (List.cons.inj q).2⟩
        · rw [if_neg c2]
          exact Or.inr ⟨rfl, fun q => c2 (by rw [(List.cons.inj q).1])⟩
      · rw [if_neg (fun q => c ((num_eqI n1 n2).mp q))]
        exact Or.inr ⟨rfl, fun q => c (by rw [(List.cons.inj q).1])⟩
theorem rec_len (h : TrI G M z u L) {j : Nat} {r : Rec} (e : (brs L)[j]? = some r) : j < 15 ∧ r.2.2.1 + r.2.1.length ≤ 16 := by
  have hL := h.1.2.2
  have h16 := h.1.2.1.1
  have hj := (List.getElem?_eq_some_iff.mp e).1
  have hb := brs_len hL h16
  have hat := (brs_ok hL r (List.mem_of_getElem? e)).2.2
  have hbr := (brs_ok hL r (List.mem_of_getElem? e)).2.1
  refine ⟨by omega, ?_⟩
  have hl : 1 ≤ r.2.1.length := by rw [(brs_ok hL r (List.mem_of_getElem? e)).1]; have := hbr.1; omega
  have hlt : r.2.1.length - 1 < (ab r.1 r.2.1).length := by rw [ab_len]; omega
  have hx : (ab r.1 r.2.1)[r.2.1.length - 1]? = some ((ab r.1 r.2.1)[r.2.1.length - 1]'hlt) := List.getElem?_eq_getElem hlt
  have := (List.getElem?_eq_some_iff.mp (hat _ _ hx)).1
  omega
theorem isSame_eq (h1 : TrI G M z u L) (h2 : TrI G M y v N) {r s : Rec} (e1 : (brs L)[j1]? = some r) (e2 : (brs N)[j2]? = some s) : Ans (f_TR_isSame G z (nI j1) y (nI j2) M) (r.2.1 = s.2.1) := by
  obtain ⟨hj1, l1⟩ := rec_len h1 e1
  obtain ⟨hj2, l2⟩ := rec_len h2 e2
  obtain ⟨a4, a5, a6, a3⟩ := h1.2.2.2.2 j1 r e1
  obtain ⟨b4, b5, b6, b3⟩ := h2.2.2.2.2 j2 s e2
  have o1 := (brs_ok h1.1.2.2 r (List.mem_of_getElem? e1)).2.2
  have o2 := (brs_ok h2.1.2.2 s (List.mem_of_getElem? e2)).2.2
  have t1 := h1.1
  have t2 := h2.1
  obtain ⟨⟨⟨r0, r01, r02, r3, r4, r5, r6, r7, r8, r9⟩, ⟨q1, q2, q3, q4, q5, q6, q7, q8, q9⟩, -⟩, -, -⟩ := t1
  obtain ⟨⟨⟨s0, s01, s02, s3, s4, s5, s6, s7, s8, s9⟩, ⟨t1, t2, t3, t4, t5, t6, t7, t8, t9⟩, -⟩, -, -⟩ := t2
  have i1 : ix (nI j1) 15 = some j1 := ix_nI hj1 (by decide)
  have i2 : ix (nI j2) 15 = some j2 := ix_nI hj2 (by decide)
  have x1 : nI (r.2.2.1 + r.2.1.length) - nI r.2.2.1 = nI r.2.1.length := by rw [nI_sub' (by omega), Nat.add_sub_cancel_left]
  have x2 : nI (s.2.2.1 + s.2.1.length) - nI s.2.2.1 = nI s.2.1.length := by rw [nI_sub' (by omega), Nat.add_sub_cancel_left]
  unfold f_TR_isSame
  simp only [st, r4, s4, r5, s5, q4, t4, q5, t5, i1, i2, Option.bind_some, a4, b4, a5, b5, x1, x2]
  by_cases c : r.2.1.length = s.2.1.length
  · rw [if_pos (by rw [c])]
    have := same_loop h1.1 h2.1 o1 o2 a4 a6 b4 b6 hj1 hj2 c (by omega) r.2.1 s.2.1 0 (4095 - r.2.1.length) rfl rfl (by omega)
    rw [show r.2.1.length + (4095 - r.2.1.length) + 1 = FU by unfold FU; omega, nI_0] at this
    exact this
  · rw [if_neg (fun q => c ((nI_eq (by omega) (by omega)).mp q))]
    exact Or.inr ⟨rfl, fun q => c (by rw [q])⟩
theorem has_loop (h1 : TrI G M z u L) (h2 : TrI G M y v N) {s : Rec} (e2 : (brs N)[j2]? = some s) {w : Nat} (hw : w ≤ (brs L).length) : ∀ (l : List Rec) (i f : Nat), ((brs L).take w).drop i = l → i ≤ w → Ans (f_TR_hasAmongFirst_3 G (l.length + f + 1) z (nI w) y (nI j2) (nI i) M) (∃ r ∈ l, r.2.1 = s.2.1) := by
  have hb := brs_len h1.1.2.2 h1.1.2.1.1
  intro l
  induction l with
  | nil =>
    intro i f hd hi
    have la := congrArg List.length hd
    rw [List.length_drop, List.length_take] at la
    simp at la
    rw [f_TR_hasAmongFirst_3, if_pos (nI_le (by omega) (by omega))]
    exact Or.inr ⟨rfl, fun ⟨r, hr, _⟩ => by cases hr⟩
  | cons r l ih =>
    intro i f hd hi
    obtain ⟨hlt, he, hr⟩ := drop_at hd
    rw [List.length_take] at hlt
    have e1 : (brs L)[i]? = some r := by
      rw [List.getElem_take] at he
      rw [List.getElem?_eq_getElem (by omega), he]
    rw [show (r :: l).length + f + 1 = (l.length + f + 1) + 1 by simp; omega, f_TR_hasAmongFirst_3, if_neg (nI_ge (show i < w by omega) (by omega))]
    rcases isSame_eq h1 h2 e1 e2 with ⟨a, c⟩ | ⟨a, c⟩
    · rw [a, Option.bind_some, if_neg (by decide)]
      exact Or.inl ⟨rfl, r, List.mem_cons_self, c⟩
    · rw [a, Option.bind_some, if_pos rfl, nI_1]
      refine (ih (i + 1) f hr (by omega)).iff ⟨fun ⟨q, hq, e⟩ => ⟨q, List.mem_cons_of_mem _ hq, e⟩, fun ⟨q, hq, e⟩ => ?_⟩
      rcases List.mem_cons.mp hq with rfl | hq
      · exact absurd e c
      · exact ⟨q, hq, e⟩
theorem has_eq (h1 : TrI G M z u L) (h2 : TrI G M y v N) {s : Rec} (e2 : (brs N)[j2]? = some s) {w : Nat} (hw : w ≤ (brs L).length) : Ans (f_TR_hasAmongFirst G z (nI w) y (nI j2) M) (s.2.1 ∈ (kd L).take w) := by
  have hb := brs_len h1.1.2.2 h1.1.2.1.1
  have hl : ((brs L).take w).length ≤ 15 := by rw [List.length_take]; omega
  have := has_loop h1 h2 e2 hw ((brs L).take w) 0 (4095 - ((brs L).take w).length) rfl (by omega)
  rw [show ((brs L).take w).length + (4095 - ((brs L).take w).length) + 1 = FU by unfold FU; omega, nI_0] at this
  refine this.iff ?_
  unfold kd
  rw [← List.map_take, List.mem_map]
end CK
/-- the kinds of the versions before k -/
def vsn (KL : Nat → List Ent) (k : Nat) : List (List Ent) := (List.range k).flatMap (fun i => kd (KL i))
theorem mem_vsn {KL : Nat → List Ent} {k : Nat} {B : List Ent} : B ∈ vsn KL k ↔ ∃ i, i < k ∧ B ∈ kd (KL i) := by
  unfold vsn
  rw [List.mem_flatMap]
  exact ⟨fun ⟨i, a, b⟩ => ⟨i, List.mem_range.mp a, b⟩, fun ⟨i, a, b⟩ => ⟨i, List.mem_range.mpr a, b⟩⟩
theorem vsn_succ {KL : Nat → List Ent} {k : Nat} : vsn KL (k + 1) = vsn KL k ++ kd (KL k) := by
  unfold vsn
  rw [List.range_succ, List.flatMap_append]
  simp
section CV
variable {G : Nat → Nat} {M : Mm} {x k : Nat} {b t : Nat → Nat} {uu : Nat → Nat → Nat} {sg : Nat → Nat} {W : List Ent} {KL : Nat → List Ent} {n : Nat} {y : Nat} {v : Nat → Nat} {N : List Ent} {j2 : Nat}
theorem CS.tri (h : CS G M x k b t uu sg W KL n) (hk3 : k ≤ 3) {i : Nat} (hi : i < n) : ix (nI i) (G (gr M x 1)) = some i ∧ gr M (gr M x 1) i = t (sg i) ∧ TrI G M (t (sg i)) (uu (sg i)) (KL i) := by
  obtain ⟨⟨c1, c2, c3, c4, c5, c6⟩, h2, h3, h4, h5, h6, h7⟩ := h
  rw [c2, c5]
  exact ⟨ix_nI (by omega) (by omega), (h4 i (by omega)).2.2, h7 i (by omega)⟩
theorem amv_loop (h : CS G M x k b t uu sg W KL n) (hk3 : k ≤ 3) (h2 : TrI G M y v N) {s : Rec} (e2 : (brs N)[j2]? = some s) {lm : Nat} (hl : lm ≤ n) : ∀ (r i f : Nat), i + r = lm → Ans (f_NT_isAmongVersions_3 G (r + f + 1) x (nI lm) y (nI j2) (nI i) M) (∃ q, i ≤ q ∧ q < lm ∧ s.2.1 ∈ kd (KL q)) := by
  have hn := h.2.2.1
  intro r
  induction r with
  | zero =>
    intro i f hi
    rw [f_NT_isAmongVersions_3, if_pos (nI_le (by omega) (by omega))]
    exact Or.inr ⟨rfl, fun ⟨q, a, c, _⟩ => by omega⟩
  | succ r ih =>
    intro i f hi
    obtain ⟨p1, p2, p3⟩ := h.tri hk3 (show i < n by omega)
    have hbr := p3.2.2.2.1
    rw [show r + 1 + f + 1 = (r + f + 1) + 1 by omega, f_NT_isAmongVersions_3, if_neg (nI_ge (show i < lm by omega) (by omega)), p1, Option.bind_some, Option.bind_some, p2, hbr]
    rcases has_eq p3 h2 e2 (Nat.le_refl _) with ⟨a, c⟩ | ⟨a, c⟩
    · rw [a, Option.bind_some, if_neg (by decide)]
      exact Or.inl ⟨rfl, i, Nat.le_refl _, by omega, List.mem_of_mem_take c⟩
    · rw [a, Option.bind_some, if_pos rfl, nI_1]
      refine (ih (i + 1) f (by omega)).iff ⟨fun ⟨q, a1, a2, a3⟩ => ⟨q, by omega, a2, a3⟩, fun ⟨q, a1, a2, a3⟩ => ?_⟩
      by_cases e : q = i
      · subst e
        refine absurd ?_ c
        rw [List.take_of_length_le (by unfold kd; rw [List.length_map]; exact Nat.le_refl _)]
        exact a3
      · exact ⟨q, by omega, a2, a3⟩
theorem amv_eq (h : CS G M x k b t uu sg W KL n) (hk3 : k ≤ 3) (h2 : TrI G M y v N) {s : Rec} (e2 : (brs N)[j2]? = some s) {lm : Nat} (hl : lm ≤ n) : Ans (f_NT_isAmongVersions G x (nI lm) y (nI j2) M) (s.2.1 ∈ vsn KL lm) := by
  have hn := h.2.2.1
  have := amv_loop h hk3 h2 e2 hl lm 0 (4095 - lm) (by omega)
  rw [show lm + (4095 - lm) + 1 = FU by unfold FU; omega, nI_0] at this
  refine this.iff ?_
  rw [mem_vsn]
  exact ⟨fun ⟨q, _, a, c⟩ => ⟨q, a, c⟩, fun ⟨q, a, c⟩ => ⟨q, Nat.zero_le _, a, c⟩⟩
theorem first_eq (h : CS G M x k b t uu sg W KL n) (hk3 : k ≤ 3) {q j : Nat} (hq : q < n) {s : Rec} (e : (brs (KL q))[j]? = some s) : Ans (f_NT_isFirstOfItsKind G x (nI q) (nI j) M) (s.2.1 ∉ (kd (KL q)).take j ++ vsn KL q) := by
  obtain ⟨p1, p2, p3⟩ := h.tri hk3 hq
  have hj := (List.getElem?_eq_some_iff.mp e).1
  unfold f_NT_isFirstOfItsKind
  rw [p1, Option.bind_some, p2]
  rcases amv_eq h hk3 p3 e (Nat.le_of_lt hq) with ⟨a, c⟩ | ⟨a, c⟩
  · rw [a, Option.bind_some, if_neg (by decide)]
    exact Or.inr ⟨rfl, fun z => z (List.mem_append_right _ c)⟩
  · rw [a, Option.bind_some, if_pos rfl, Option.bind_some, Option.bind_some, p2]
    rcases has_eq p3 p3 e (Nat.le_of_lt hj) with ⟨a2, c2⟩ | ⟨a2, c2⟩
    · rw [a2, Option.bind_some, if_neg (by decide)]
      exact Or.inr ⟨rfl, fun z => z (List.mem_append_left _ c2)⟩
    · rw [a2, Option.bind_some, if_pos rfl]
      exact Or.inl ⟨rfl, fun z => (List.mem_append.mp z).elim c2 c⟩
theorem kd_drop {L : List Ent} {i : Nat} {l : List Rec} (h : (brs L).drop i = l) : (kd L).drop i = l.map (fun r => r.2.1) := by
  unfold kd
  rw [← List.map_drop, h]
theorem take_mem {L : List Ent} {i : Nat} {s : Rec} (e : (brs L)[i]? = some s) {V : List (List Ent)} (B : List Ent) : B ∈ s.2.1 :: ((kd L).take i ++ V) ↔ B ∈ (kd L).take (i + 1) ++ V := by
  have hk := kd_at e
  rw [List.take_succ, hk]
  simp only [Option.toList, List.mem_cons, List.mem_append, List.mem_singleton, List.not_mem_nil, or_false]
  constructor
  · rintro (h | h | h)
    · exact Or.inl (Or.inr h)
    · exact Or.inl (Or.inl h)
    · exact Or.inr h
  · rintro ((h | h) | h)
    · exact Or.inr (Or.inl h)
    · exact Or.inl h
    · exact Or.inr (Or.inr h)
/-- how many branches a commit would write -/
theorem btw_loop (h : CS G M x k b t uu sg W KL n) (hk3 : k ≤ 3) : ∀ (l : List Rec) (i f c : Nat), (brs W).drop i = l → i ≤ (brs W).length → f_NT_branchesToWrite_4 G (l.length + f + 1) x (nI c) (nI i) M = some (nI (c + fsum (fun _ => 1) ((kd W).take i ++ vsn KL n) (l.map (fun r => r.2.1)))) := by
  have hW := h.2.2.2.2.2.1
  have h0 := h.1.1
  have hb := brs_len hW.1.2.2 hW.1.2.1.1
  intro l
  induction l with
  | nil =>
    intro i f c hd hi
    have la := congrArg List.length hd
    rw [List.length_drop] at la
    simp at la
    rw [f_NT_branchesToWrite_4, h0, hW.2.2.2.1, if_pos (nI_le (by omega) (by omega)), List.map_nil, fsum_nil, Nat.add_zero]
  | cons s l ih =>
    intro i f c hd hi
    obtain ⟨hlt, he, hr⟩ := drop_at hd
    have e1 : (brs W)[i]? = some s := by rw [List.getElem?_eq_getElem hlt, he]
    have nx := fun c => ih (i + 1) f c hr (by omega)
    rw [show (s :: l).length + f + 1 = (l.length + f + 1) + 1 by simp; omega, f_NT_branchesToWrite_4, h0, hW.2.2.2.1, if_neg (nI_ge hlt (by omega)), List.map_cons]
    have es := fsum_seen (g := fun _ => 1) (l.map (fun r => r.2.1)) _ _ (take_mem e1 (V := vsn KL n))
    rcases has_eq hW hW e1 (Nat.le_of_lt hlt) with ⟨a, q⟩ | ⟨a, q⟩
    · rw [a, Option.bind_some, if_neg (by decide), nI_1, nx, fsum_in (List.mem_append_left _ q), es]
    · rw [a, Option.bind_some, if_pos rfl, h.2.1]
      rcases amv_eq h hk3 hW e1 (Nat.le_refl n) with ⟨a2, q2⟩ | ⟨a2, q2⟩
      · rw [a2, Option.bind_some, if_neg (by decide), nI_1, nx, fsum_in (List.mem_append_right _ q2), es]
      · rw [a2, Option.bind_some, if_pos rfl, nI_1, nI_1, nx, fsum_out (fun z => (List.mem_append.mp z).elim q q2), es, Nat.add_assoc]
theorem btw_eq (h : CS G M x k b t uu sg W KL n) (hk3 : k ≤ 3) : f_NT_branchesToWrite G x M = some (nI (fsum (fun _ => 1) (vsn KL n) (kd W))) := by
  have hW := h.2.2.2.2.2.1
  have hb := brs_len hW.1.2.2 hW.1.2.1.1
  have := btw_loop h hk3 (brs W) 0 (4095 - (brs W).length) 0 rfl (by omega)
  rw [show (brs W).length + (4095 - (brs W).length) + 1 = FU by unfold FU; omega, nI_0, List.take_zero, List.nil_append, Nat.zero_add] at this
  exact this
/-- how many branches are stored -/
theorem st14_loop (h : CS G M x k b t uu sg W KL n) (hk3 : k ≤ 3) {k4 : Nat → Int32 → Int32 → Mm → Option Int32} {q : Nat} (hq : q < n) : ∀ (l : List Rec) (i f c : Nat), (brs (KL q)).drop i = l → i ≤ (brs (KL q)).length → f_NT_stored_14 G k4 (l.length + f + 1) x (nI c) (nI q) (nI i) M = k4 x (nI (c + fsum (fun _ => 1) ((kd (KL q)).take i ++ vsn KL q) (l.map (fun r => r.2.1)))) (nI (q + 1)) M := by
  obtain ⟨p1, p2, p3⟩ := h.tri hk3 hq
  have hb := brs_len p3.1.2.2 p3.1.2.1.1
  intro l
  induction l with
  | nil =>
    intro i f c hd hi
    have la := congrArg List.length hd
    rw [List.length_drop] at la
    simp at la
    rw [f_NT_stored_14, p1, Option.bind_some, p2, p3.2.2.2.1, if_pos (nI_le (by omega) (by omega)), List.map_nil, fsum_nil, Nat.add_zero, nI_1]
  | cons s l ih =>
    intro i f c hd hi
    obtain ⟨hlt, he, hr⟩ := drop_at hd
    have e1 : (brs (KL q))[i]? = some s := by rw [List.getElem?_eq_getElem hlt, he]
    have nx := fun c => ih (i + 1) f c hr (by omega)
    rw [show (s :: l).length + f + 1 = (l.length + f + 1) + 1 by simp; omega, f_NT_stored_14, p1, Option.bind_some, p2, p3.2.2.2.1, if_neg (nI_ge hlt (by omega)), List.map_cons]
    have es := fsum_seen (g := fun _ => 1) (l.map (fun r => r.2.1)) _ _ (take_mem e1 (V := vsn KL q))
    rcases first_eq h hk3 hq e1 with ⟨a, c1⟩ | ⟨a, c1⟩
    · rw [a, Option.bind_some, if_neg (by decide), nI_1, nI_1, nx, fsum_out c1, es, Nat.add_assoc]
    · rw [a, Option.bind_some, if_pos rfl, nI_1, nx, fsum_in (Classical.not_not.mp c1), es]
theorem st4_loop (h : CS G M x k b t uu sg W KL n) (hk3 : k ≤ 3) : ∀ (r q f c : Nat), q + r = n → f_NT_stored_4 G (r + f + 1) x (nI c) (nI q) M = some (nI (c + fsum (fun _ => 1) (vsn KL q) ((List.range' q r).flatMap (fun i => kd (KL i))))) := by
  have hn := h.2.2.1
  intro r
  induction r with
  | zero =>
    intro q f c hq
    rw [f_NT_stored_4, h.2.1, if_pos (nI_le (by omega) (by omega))]
    simp [fsum]
  | succ r ih =>
    intro q f c hq
    obtain ⟨p1, p2, p3⟩ := h.tri hk3 (show q < n by omega)
    have hb := brs_len p3.1.2.2 p3.1.2.1.1
    have lp := st14_loop h hk3 (k4 := fun y0 y1 y2 M => f_NT_stored_4 G (r + f + 1) y0 y1 y2 M) (show q < n by omega) (brs (KL q)) 0 (4095 - (brs (KL q)).length) c rfl (by omega)
    rw [show (brs (KL q)).length + (4095 - (brs (KL q)).length) + 1 = FU by unfold FU; omega, nI_0, List.take_zero, List.nil_append] at lp
    have es : fsum (fun _ => 1) (vsn KL (q + 1)) ((List.range' (q + 1) r).flatMap (fun i => kd (KL i))) = fsum (fun _ => 1) (kd (KL q) ++ vsn KL q) ((List.range' (q + 1) r).flatMap (fun i => kd (KL i))) := fsum_seen _ _ _ (fun B => by
      rw [vsn_succ, List.mem_append, List.mem_append]
      exact or_comm)
    rw [show r + 1 + f + 1 = (r + f + 1) + 1 by omega, f_NT_stored_4, h.2.1, if_neg (nI_ge (show q < n by omega) (by omega)), lp, ih (q + 1) f _ (by omega), List.range'_succ, List.flatMap_cons, fsum_app, es, Nat.add_assoc]
    rfl
theorem stored_eq (h : CS G M x k b t uu sg W KL n) (hk3 : k ≤ 3) : f_NT_stored G x M = some (nI (fsum (fun _ => 1) [] (vsn KL n))) := by
  have hn := h.2.2.1
  have := st4_loop h hk3 n 0 (4095 - n) 0 (by omega)
  rw [show n + (4095 - n) + 1 = FU by unfold FU; omega, nI_0, Nat.zero_add, ← List.range_eq_range'] at this
  exact this
end CV
