/-! What the list of branches is: all branches, each once, in the order of the way down. -/
theorem lsk_mem {L A : List Ent} {Q : List Nat} {g : Nat → Nat → Nat → List Rec} : ∀ (n c row i : Nat) (r : Rec), At L row (ab Q (restK A c n)) → r ∈ lsk g A n c row i → ∃ c' row' i', c ≤ c' ∧ c' < c + n ∧ At L row' (ab (Q ++ [c']) (sub c' A)) ∧ r ∈ g c' row' i' := by
  intro n
  induction n with
  | zero => intro c row i r _ h; cases h
  | succ n ih =>
    intro c row i r ha h
    rw [restK_succ, ab_app] at ha
    obtain ⟨k1, k2⟩ := at_app ha
    rw [ab_kid] at k1
    rw [ab_len, kid_len] at k2
    rw [lsk] at h
    rcases List.mem_append.mp h with h | h
    · exact ⟨c, row, i, Nat.le_refl _, by omega, k1, h⟩
    · obtain ⟨c', row', i', a1, a2, a3, a4⟩ := ih (c + 1) _ _ r k2 h
      exact ⟨c', row', i', by omega, by omega, a3, a4⟩
theorem kids_at {L A : List Ent} {Q : List Nat} {fr : Nat} (hA : Srt A) (ha : At L fr (ab Q A)) : At L (fr + (own A).length) (ab Q (restK A 0 16)) := by
  have hsd := SDK hA
  rw [hsd, ab_app] at ha
  have k2 := (at_app ha).2
  rw [ab_len] at k2
  exact k2
theorem isBr_brQ {L : List Ent} {P : List Nat} (hL : Srt L) (h2 : 2 ≤ (rl P L).length) : isBr L (brQ P (rl P L)) := by
  unfold isBr
  rw [← brA_rl hL, brA_len]
  exact ⟨h2, cm_brA⟩
theorem sub_brA {L : List Ent} {P : List Nat} (hL : Srt L) (c : Nat) : sub c (brA (rl P L)) = rl (brQ P (rl P L) ++ [c]) L := by rw [brA_rl hL, sub_rl]
theorem lsr_ok {L : List Ent} (hL : Srt L) : ∀ (n : Nat) (P : List Nat) (fr i : Nat) (par : Int32), At L fr (ab P (rl P L)) → ∀ r ∈ lsr n P (rl P L) fr i par, P <+: r.1 ∧ r.2.1 = rl r.1 L ∧ isBr L r.1 ∧ At L r.2.2.1 (ab r.1 r.2.1) := by
  intro n
  induction n with
  | zero => intro P fr i par _ r h; cases h
  | succ n ih =>
    intro P fr i par ha r h
    rw [lsr] at h
    by_cases c : (rl P L).length ≤ 1
    · rw [if_pos c] at h; cases h
    · rw [if_neg c] at h
      have hS := srt_rl hL P
      have hb : At L fr (ab (brQ P (rl P L)) (brA (rl P L))) := at_branch hS ha
      rcases List.mem_cons.mp h with h | h
      · subst h
        exact ⟨brQ_pre, brA_rl hL, isBr_brQ hL (by omega), hb⟩
      · obtain ⟨c', row', i', a1, a2, a3, a4⟩ := lsk_mem 16 0 _ _ r (kids_at (srt_brA hS) hb) h
        rw [sub_brA hL] at a3 a4
        obtain ⟨q1, q2, q3, q4⟩ := ih _ row' i' _ a3 r a4
        exact ⟨(brQ_pre.trans (List.prefix_append _ _)).trans q1, q2, q3, q4⟩
theorem lsk_in {A : List Ent} {g : Nat → Nat → Nat → List Rec} {x : List Nat} {c' : Nat} (hg : ∀ row i, x ∈ (g c' row i).map Prod.fst) : ∀ (n c row i : Nat), c ≤ c' → c' < c + n → x ∈ (lsk g A n c row i).map Prod.fst := by
  intro n
  induction n with
  | zero => intro c row i h1 h2; omega
  | succ n ih =>
    intro c row i h1 h2
    rw [lsk, List.map_append, List.mem_append]
    by_cases e : c = c'
    · subst e; exact Or.inl (hg row i)
    · exact Or.inr (ih _ _ _ (by omega) (by omega))
theorem isBr_nb {L : List Ent} (hL : Srt L) {Q : List Nat} (h : isBr L Q) : nb Q ∧ Q.length < 4 := by
  obtain ⟨e, he, -, -⟩ := hdk_mem (A := rl Q L) (by have := h.1; omega)
  have hb := hL.1 _ (rl_mem.mp he)
  have hl := hb.1
  have q : nb Q := ⟨by show Q.length ≤ 4; rw [List.length_append] at hl; omega, fun d hd => hb.2 d (List.mem_append_left _ hd)⟩
  refine ⟨q, ?_⟩
  have := cm_lt (srt_rl hL Q) h.1 (m := 4 - Q.length) (fun e he => by
    have := (hL.1 _ (rl_mem.mp he)).1
    rw [List.length_append] at this
    omega)
  omega
/-- a branch below a part is below the part's branch -/
theorem below {L : List Ent} (hL : Srt L) {P X : List Nat} (h : isBr L (P ++ X)) : brQ P (rl P L) <+: P ++ X := by
  have hS := srt_rl hL P
  have h2 := h.1
  rw [rl_app] at h2
  have hc : cm (rl P L) ≤ X.length := by
    have h0 := h.2
    rw [rl_app] at h0
    have : cm (rl P L) - X.length ≤ cm (rl X (rl P L)) := by
      refine cm_max (p := (hdk (rl P L)).take (cm (rl P L)) |>.drop X.length) (by omega) (fun e he => ?_)
      have hm := cm_all hS _ (rl_mem.mp he)
      have hl : cm (rl P L) ≤ X.length + e.1.length := by
        have := hm.1
        rw [List.length_append] at this
        exact this
      refine ⟨by omega, ?_⟩
      rw [← hm.2, List.take_append, List.drop_append]
      by_cases q : X.length ≤ cm (rl P L)
      · rw [List.take_of_length_le q, List.drop_length, List.nil_append, Nat.sub_self, List.drop_zero]
      · have z : cm (rl P L) - X.length = 0 := by omega
        rw [z, List.take_zero, List.drop_nil, List.append_nil, List.drop_eq_nil_of_le]
        rw [List.length_take]
        omega
    omega
  obtain ⟨e, he, -, -⟩ := hdk_mem (A := rl X (rl P L)) (by omega)
  have hm := cm_all hS _ (rl_mem.mp he)
  unfold brQ
  rw [← hm.2]
  show P ++ (X ++ e.1).take (cm (rl P L)) <+: P ++ X
  rw [List.take_append_of_le_length hc]
  exact (List.prefix_append_right_inj P).mpr (List.take_prefix _ _)
theorem lsr_all {L : List Ent} (hL : Srt L) : ∀ (n : Nat) (P Q : List Nat) (fr i : Nat) (par : Int32), isBr L Q → P <+: Q → Q.length < P.length + n → Q ∈ (lsr n P (rl P L) fr i par).map Prod.fst := by
  intro n
  induction n with
  | zero => intro P Q fr i par _ hp hl; have := hp.length_le; omega
  | succ n ih =>
    intro P Q fr i par hQ hp hl
    obtain ⟨X, rfl⟩ := hp
    have hlen : 2 ≤ (rl P L).length := by
      have := hQ.1
      rw [rl_app] at this
      have := rl_len_le X (rl P L)
      omega
    rw [lsr, if_neg (by omega), List.map_cons, List.mem_cons]
    have hb := below hL hQ
    obtain ⟨Y, hY⟩ := hb
    cases Y with
    | nil => left; rw [← hY, List.append_nil]
    | cons c Y =>
      right
      have hc : c < 16 := (isBr_nb hL hQ).1.2 c (by rw [← hY]; simp)
      have hpre : brQ P (rl P L) ++ [c] <+: P ++ X := ⟨Y, by rw [List.append_assoc]; exact hY⟩
      refine lsk_in (c' := c) (fun row j => ?_) 16 0 _ _ (by omega) (by omega)
      rw [sub_brA hL]
      refine ih _ _ row j _ hQ hpre ?_
      have h1 := (brQ_pre (P := P) (A := rl P L)).length_le
      have e1 : (brQ P (rl P L) ++ [c]).length = (brQ P (rl P L)).length + 1 := by rw [List.length_append]; rfl
      omega
theorem brs_all {L : List Ent} (hL : Srt L) {Q : List Nat} : Q ∈ (brs L).map Prod.fst ↔ isBr L Q := by
  constructor
  · intro h
    obtain ⟨r, hr, rfl⟩ := List.mem_map.mp h
    have hr' : r ∈ lsr RD [] (rl [] L) 0 0 (-1) := by rw [rl_nil]; exact hr
    exact (lsr_ok hL RD [] 0 0 (-1) (by rw [rl_nil]; exact at_all) r hr').2.2.1
  · intro h
    have := lsr_all hL RD [] Q 0 0 (-1) h List.nil_prefix (by have := (isBr_nb hL h).2; show Q.length < 0 + 8; omega)
    rw [rl_nil] at this
    exact this
theorem brs_ok {L : List Ent} (hL : Srt L) : ∀ r ∈ brs L, r.2.1 = rl r.1 L ∧ isBr L r.1 ∧ At L r.2.2.1 (ab r.1 r.2.1) := fun r hr => by
  have hr' : r ∈ lsr RD [] (rl [] L) 0 0 (-1) := by rw [rl_nil]; exact hr
  exact (lsr_ok hL RD [] 0 0 (-1) (by rw [rl_nil]; exact at_all) r hr').2
/-- the order: of two that begin a key, the shorter one first -/
def Ord (key x y : List Nat) : Prop := x ≠ y ∧ (x <+: key → y <+: key → x.length < y.length)
theorem pre_at {Q x key : List Nat} {c : Nat} (h : Q ++ [c] <+: x) (g : x <+: key) : key[Q.length]? = some c := by
  obtain ⟨t, rfl⟩ := h.trans g
  rw [List.append_assoc, List.getElem?_append_right (Nat.le_refl _), Nat.sub_self]
  rfl
theorem apart {Q x y : List Nat} {c d : Nat} (h : Q ++ [c] <+: x) (g : Q ++ [d] <+: y) (hcd : c ≠ d) : x ≠ y := by
  rintro rfl
  have a := pre_at h (List.prefix_refl _)
  have b := pre_at g (List.prefix_refl _)
  rw [a] at b
  exact hcd (Option.some.inj b)
theorem lsk_pre {A : List Ent} {Q : List Nat} {g : Nat → Nat → Nat → List Rec} (hg : ∀ c row i, ∀ r ∈ g c row i, Q ++ [c] <+: r.1) : ∀ (n c row i : Nat), ∀ r ∈ lsk g A n c row i, ∃ c', c ≤ c' ∧ Q ++ [c'] <+: r.1 := by
  intro n
  induction n with
  | zero => intro c row i r h; cases h
  | succ n ih =>
    intro c row i r h
    rw [lsk] at h
    rcases List.mem_append.mp h with h | h
    · exact ⟨c, Nat.le_refl _, hg c row i r h⟩
    · obtain ⟨c', a, b⟩ := ih _ _ _ r h
      exact ⟨c', by omega, b⟩
theorem lsk_ord {A : List Ent} {Q key : List Nat} {g : Nat → Nat → Nat → List Rec} (hg : ∀ c row i, ∀ r ∈ g c row i, Q ++ [c] <+: r.1) (ho : ∀ c row i, (g c row i).Pairwise (fun a b => Ord key a.1 b.1)) : ∀ (n c row i : Nat), (lsk g A n c row i).Pairwise (fun a b => Ord key a.1 b.1) := by
  intro n
  induction n with
  | zero => intro c row i; exact List.Pairwise.nil
  | succ n ih =>
    intro c row i
    rw [lsk, List.pairwise_append]
    refine ⟨ho c row i, ih _ _ _, fun a ha b hb => ?_⟩
    have h1 := hg c row i a ha
    obtain ⟨c', hc, h2⟩ := lsk_pre hg n _ _ _ b hb
    refine ⟨apart h1 h2 (by omega), fun p1 p2 => ?_⟩
    have a1 := pre_at h1 p1
    have a2 := pre_at h2 p2
    rw [a1] at a2
    have := Option.some.inj a2
    omega
theorem lsr_pre : ∀ (n : Nat) (P : List Nat) (A : List Ent) (fr i : Nat) (par : Int32), ∀ r ∈ lsr n P A fr i par, P <+: r.1 := by
  intro n
  induction n with
  | zero => intro P A fr i par r h; cases h
  | succ n ih =>
    intro P A fr i par r h
    rw [lsr] at h
    by_cases c : A.length ≤ 1
    · rw [if_pos c] at h; cases h
    · rw [if_neg c] at h
      rcases List.mem_cons.mp h with h | h
      · subst h; exact brQ_pre
      · obtain ⟨c', -, h2⟩ := lsk_pre (Q := brQ P A) (fun c row j r hr => ih _ _ _ _ _ r hr) 16 0 _ _ r h
        exact (brQ_pre.trans (List.prefix_append _ _)).trans h2
theorem lsr_ord {key : List Nat} : ∀ (n : Nat) (P : List Nat) (A : List Ent) (fr i : Nat) (par : Int32), (lsr n P A fr i par).Pairwise (fun a b => Ord key a.1 b.1) := by
  intro n
  induction n with
  | zero => intro P A fr i par; exact List.Pairwise.nil
  | succ n ih =>
    intro P A fr i par
    rw [lsr]
    by_cases c : A.length ≤ 1
    · rw [if_pos c]; exact List.Pairwise.nil
    · rw [if_neg c, List.pairwise_cons]
      refine ⟨fun r hr => ?_, lsk_ord (Q := brQ P A) (fun c row j r hr => lsr_pre n _ _ _ _ _ r hr) (fun c row j => ih _ _ _ _ _) 16 0 _ _⟩
      obtain ⟨c', -, h2⟩ := lsk_pre (Q := brQ P A) (fun c row j r hr => lsr_pre n _ _ _ _ _ r hr) 16 0 _ _ r hr
      have := h2.length_le
      rw [List.length_append, List.length_singleton] at this
      refine ⟨fun e => ?_, fun _ _ => by show (brQ P A).length < _; omega⟩
      have : (brQ P A).length = r.1.length := congrArg List.length e
      omega
theorem brs_nodup (L : List Ent) : ((brs L).map Prod.fst).Nodup := by
  unfold List.Nodup
  rw [List.pairwise_map]
  exact (lsr_ord (key := []) RD [] L 0 0 (-1)).imp (fun h => h.1)
theorem perm_of {a b : List (List Nat)} (ha : a.Nodup) (hb : b.Nodup) (h : ∀ x, x ∈ a ↔ x ∈ b) : a.Perm b := (List.perm_ext_iff_of_nodup ha hb).mpr h
/-- lists of fronts of one key, by length -/
theorem len_ext : ∀ (a b : List (List Nat)), a.Pairwise (fun x y => x.length < y.length) → b.Pairwise (fun x y => x.length < y.length) → (∀ x, x ∈ a ↔ x ∈ b) → a = b := by
  intro a
  induction a with
  | nil =>
    intro b _ _ h
    cases b with
    | nil => rfl
    | cons y b => have := (h y).mpr List.mem_cons_self; cases this
  | cons x a ih =>
    intro b ha hb h
    have pa := List.pairwise_cons.mp ha
    cases b with
    | nil => have := (h x).mp List.mem_cons_self; cases this
    | cons y b =>
      have pb := List.pairwise_cons.mp hb
      have hxy : x = y := by
        rcases List.mem_cons.mp ((h x).mp List.mem_cons_self) with e | e
        · exact e
        · rcases List.mem_cons.mp ((h y).mpr List.mem_cons_self) with f | f
          · exact f.symm
          · have := pb.1 x e
            have := pa.1 y f
            omega
      subst hxy
      rw [ih b pa.2 pb.2 (fun z => ?_)]
      constructor
      · intro hz
        rcases List.mem_cons.mp ((h z).mp (List.mem_cons_of_mem _ hz)) with e | e
        · have := pa.1 z hz; rw [e] at this; omega
        · exact e
      · intro hz
        rcases List.mem_cons.mp ((h z).mpr (List.mem_cons_of_mem _ hz)) with e | e
        · have := pb.1 z hz; rw [e] at this; omega
        · exact e
