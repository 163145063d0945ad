/-! The reference's members, common fronts and branches. -/
theorem rl_cons (P : List Nat) (e : Ent) (r : List Ent) : rl P (e :: r) = (if P <+: e.1 then [(e.1.drop P.length, e.2)] else []) ++ rl P r := by
  unfold rl
  rw [List.filterMap_cons]
  by_cases h : P <+: e.1
  · rw [if_pos h, if_pos h]; rfl
  · rw [if_neg h, if_neg h]; rfl
theorem rl_perm {K L : List Ent} (h : K.Perm L) (P : List Nat) : (rl P K).Perm (rl P L) := h.filterMap _
theorem rl_mem {P : List Nat} {L : List Ent} {e : Ent} : e ∈ rl P L ↔ (P ++ e.1, e.2) ∈ L := by
  unfold rl
  rw [List.mem_filterMap]
  constructor
  · rintro ⟨d, hd, q⟩
    by_cases c : P <+: d.1
    · rw [if_pos c] at q
      have := Option.some.inj q
      rw [← this]
      show (P ++ d.1.drop P.length, d.2) ∈ L
      rw [← pre_split c]
      exact hd
    · rw [if_neg c] at q; cases q
  · intro h
    exact ⟨_, h, by rw [if_pos (List.prefix_append _ _), List.drop_left]⟩
theorem rl_len_le (X : List Nat) : ∀ B : List Ent, (rl X B).length ≤ B.length := fun B => List.length_filterMap_le _ _
theorem rl_len_all (X : List Nat) : ∀ B : List Ent, (rl X B).length = B.length ↔ ∀ e ∈ B, X <+: e.1 := by
  intro B
  induction B with
  | nil => simp [rl]
  | cons a B ih =>
    rw [rl_cons, List.length_append, List.length_cons]
    have hle := rl_len_le X B
    by_cases c : X <+: a.1
    · rw [if_pos c, List.length_singleton]
      constructor
      · intro h e he
        rcases List.mem_cons.mp he with rfl | he
        · exact c
        · exact ih.mp (by omega) e he
      · intro h
        have := ih.mpr (fun e he => h e (List.mem_cons_of_mem _ he))
        omega
    · rw [if_neg c, List.length_nil]
      constructor
      · intro h; omega
      · intro h; exact absurd (h a List.mem_cons_self) c
theorem num_snoc (P : List Nat) (c : Nat) : num (P ++ [c]) = 16 * num P + c := by
  rw [num_app]
  simp [vl]
  omega
/-- one map of the reference: its rows K are those of the sorted map L, in some order -/
def MpS (G : Nat → Nat) (M : Mm) (mo : Nat) (um : Nat → Nat) (m : Nat) (K L : List Ent) : Prop := ModelR G M mo um ∧ m < 4 ∧ RepK M um m K ∧ K.Perm L ∧ Srt L
section MP
variable {G : Nat → Nat} {M : Mm} {mo m : Nat} {um : Nat → Nat} {K L : List Ent}
theorem MpS.nb (h : MpS G M mo um m K L) : ∀ e ∈ K, nb e.1 := fun e he => h.2.2.2.2.1 e (h.2.2.2.1.mem_iff.mp he)
theorem members_eq (h : MpS G M mo um m K L) {P : List Nat} (hP : nb P) : f_MO_members G mo (nI m) (nI (num P)) M = some (nI (rl P L).length) := by
  have hnb := h.nb
  obtain ⟨hR, hm, ⟨h1, h4, h5⟩, hp, hs⟩ := h
  obtain ⟨r0, r1, r2, r3, r4, r5, r6, r7, g0, g1, g2, -⟩ := hR
  have go : ∀ (l : List Ent) (i f c : Nat), K.drop i = l → i ≤ K.length → f_MO_members_8 G (l.length + f + 1) mo (nI m) (nI (num P)) (nI c) (nI (16 * m + i)) M = some (nI (c + (rl P l).length)) := by
    intro l
    induction l with
    | nil =>
      intro i f c hd hi
      have : K.length ≤ i := by
        have := congrArg List.length hd
        rw [List.length_drop] at this
        simp at this
        omega
      rw [f_MO_members_8, r2, g2, ix_nI hm (by decide), Option.bind_some, h4, m16, if_pos ((nI_leI (by omega) (by omega)).mpr (by omega))]
      rfl
    | cons e r ih =>
      intro i f c hd hi
      obtain ⟨hlt, he, hr⟩ := drop_at hd
      have hq := (h5 i hlt).1
      have hb : nb e.1 := by rw [← he]; exact hnb _ (List.getElem_mem hlt)
      rw [show (e :: r).length + f + 1 = (r.length + f + 1) + 1 by simp; omega, f_MO_members_8, r2, g2, ix_nI hm (by decide), Option.bind_some, h4, m16, if_neg (nI_ge (by omega) (by omega)), r0, g0, ix_nI (by omega) (by decide), Option.bind_some, hq, he, MO_begins_eq hb hP, rl_cons, nI_1, nI_1, show 16 * m + i + 1 = 16 * m + (i + 1) by omega]
      by_cases c1 : P <+: e.1
      · rw [if_pos c1, if_neg (by decide), if_pos c1, ih (i + 1) f (c + 1) hr (by omega), List.length_append, List.length_singleton]
        congr 2
        omega
      · rw [if_neg c1, if_pos rfl, if_neg c1, List.nil_append]
        exact ih (i + 1) f c hr (by omega)
  unfold f_MO_members
  have := go K 0 (4095 - K.length) 0 rfl (by omega)
  rw [nI_0, Nat.zero_add, Nat.add_zero, show K.length + (4095 - K.length) + 1 = FU by unfold FU; omega, (rl_perm hp P).length_eq] at this
  rw [show (16 : Int32) * nI m = nI (16 * m) from pk_mul 16 m]
  exact this
theorem member_eq (h : MpS G M mo um m K L) {P : List Nat} (hP : nb P) (h1 : 1 ≤ (rl P L).length) : ∃ (j : Nat) (hj : j < K.length), P <+: K[j].1 ∧ f_MO_member G mo (nI m) (nI (num P)) M = some (nI (16 * m + j)) := by
  have hnb := h.nb
  obtain ⟨hR, hm, ⟨hl, h4, h5⟩, hp, hs⟩ := h
  obtain ⟨r0, r1, r2, r3, r4, r5, r6, r7, g0, g1, g2, -⟩ := hR
  have go : ∀ (l : List Ent) (i f : Nat), K.drop i = l → i ≤ K.length → 1 ≤ (rl P l).length → ∃ (j : Nat) (hj : j < K.length), P <+: K[j].1 ∧ f_MO_member_5 G (l.length + f + 1) mo (nI m) (nI (num P)) (nI (16 * m + i)) M = some (nI (16 * m + j)) := by
    intro l
    induction l with
    | nil => intro i f hd hi hc; simp [rl] at hc
    | cons e r ih =>
      intro i f hd hi hc
      obtain ⟨hlt, he, hr⟩ := drop_at hd
      have hq := (h5 i hlt).1
      have hb : nb e.1 := by rw [← he]; exact hnb _ (List.getElem_mem hlt)
      rw [show (e :: r).length + f + 1 = (r.length + f + 1) + 1 by simp; omega, f_MO_member_5, r2, g2, ix_nI hm (by decide), Option.bind_some, h4, m16, if_neg (nI_ge (by omega) (by omega)), r0, g0, ix_nI (by omega) (by decide), Option.bind_some, hq, he, MO_begins_eq hb hP, nI_1, show 16 * m + i + 1 = 16 * m + (i + 1) by omega]
      rw [rl_cons] at hc
      by_cases c1 : P <+: e.1
      · rw [if_pos c1, if_neg (by decide)]
        exact ⟨i, hlt, by rw [he]; exact c1, rfl⟩
      · rw [if_neg c1, if_pos rfl]
        rw [if_neg c1, List.nil_append] at hc
        exact ih (i + 1) f hr (by omega) hc
  unfold f_MO_member
  have := go K 0 (4095 - K.length) rfl (by omega) (by rw [(rl_perm hp P).length_eq]; exact h1)
  rw [Nat.add_zero, show K.length + (4095 - K.length) + 1 = FU by unfold FU; omega] at this
  rw [show (16 : Int32) * nI m = nI (16 * m) from pk_mul 16 m]
  exact this
theorem nb_take {p : List Nat} (h : nb p) (k : Nat) : nb (p.take k) := ⟨by rw [List.length_take]; have := h.1; omega, fun d hd => h.2 d (List.mem_of_mem_take hd)⟩
theorem nb_drop {p : List Nat} (h : nb p) (k : Nat) : nb (p.drop k) := ⟨by rw [List.length_drop]; have := h.1; omega, fun d hd => h.2 d (List.mem_of_mem_drop hd)⟩
theorem take_app2 (P q : List Nat) (j : Nat) : (P ++ q).take (P.length + j) = P ++ q.take j := by rw [List.take_append, List.take_of_length_le (Nat.le_add_right _ _), Nat.add_sub_cancel_left]
theorem nb_brQ {P : List Nat} (hL : Srt L) (h1 : 1 ≤ (rl P L).length) : nb (brQ P (rl P L)) := by
  obtain ⟨e, he, e1, -⟩ := hdk_mem h1
  have hb := hL.1 _ (rl_mem.mp he)
  have hle := (cm_all (srt_rl hL P) e he).1
  have : brQ P (rl P L) = (P ++ e.1).take (P.length + cm (rl P L)) := by
    unfold brQ
    rw [e1, take_app2]
  rw [this]
  exact nb_take hb _
/-- how many members a longer front has -/
theorem cnt_iff (h : MpS G M mo um m K L) {P q : List Nat} {v : Int32} (hq : (q, v) ∈ rl P L) {j : Nat} (hj : j ≤ q.length) : (rl (P ++ q.take j) L).length = (rl P L).length ↔ j ≤ cm (rl P L) := by
  have hS := srt_rl h.2.2.2.2 P
  rw [rl_app, rl_len_all]
  constructor
  · intro ha
    refine cm_max (p := q.take j) (List.length_pos_of_mem hq) (fun e he => ?_)
    have := ha e he
    have hl : (q.take j).length = j := by rw [List.length_take]; omega
    refine ⟨by have := this.length_le; omega, ?_⟩
    have := List.prefix_iff_eq_take.mp this
    rw [hl] at this
    exact this.symm
  · intro hc e he
    have a1 := cm_all hS e he
    have a2 := cm_all hS _ hq
    have : q.take j = e.1.take j := by
      have z := congrArg (List.take j) (a2.2.trans a1.2.symm)
      rw [List.take_take, List.take_take, Nat.min_eq_left hc] at z
      exact z
    rw [this]
    exact List.take_prefix _ _
theorem common_step (h : MpS G M mo um m K L) {P q : List Nat} {v : Int32} (hq : (q, v) ∈ rl P L) (hb : nb (P ++ q)) {s f b : Nat} (hs : s ≤ q.length) : f_MO_common_35 G (f + 1) mo (nI m) (nI (rl P L).length) (nI (num (P ++ q))) (nI (num (P ++ q.take b))) (nI s) M = f_MO_common_35 G f mo (nI m) (nI (rl P L).length) (nI (num (P ++ q))) (nI (num (P ++ q.take (if q.length - s ≤ cm (rl P L) then q.length - s else b)))) (nI s + (-1)) M := by
  have hsm := num_sm hb
  have h16 : (rl P L).length ≤ 16 := by
    have a := rl_len_le P K
    rw [(rl_perm h.2.2.2.1 P).length_eq] at a
    have := h.2.2.1.1
    omega
  have hl4 := hb.1
  rw [List.length_append] at hl4
  have hft : num (P ++ q) / 16 ^ s = num (P ++ q.take (q.length - s)) := by
    have := num_front hb.2 (k := P.length + (q.length - s)) (by rw [List.length_append]; omega)
    rw [List.length_append, show P.length + q.length - (P.length + (q.length - s)) = s by omega, List.take_append, List.take_of_length_le (by omega), Nat.add_sub_cancel_left] at this
    exact this
  have hnb : nb (P ++ q.take (q.length - s)) := by
    have := nb_take hb (P.length + (q.length - s))
    rw [List.take_append, List.take_of_length_le (by omega), Nat.add_sub_cancel_left] at this
    exact this
  rw [f_MO_common_35, if_neg (nI_pos (by omega)), sh_r (by omega) (by omega), hft]
  simp only [st]
  rw [members_eq h hnb, Option.bind_some]
  have hi := cnt_iff h hq (j := q.length - s) (by omega)
  have hle : (rl (P ++ q.take (q.length - s)) L).length ≤ 16 := by
    rw [rl_app]
    have := rl_len_le (q.take (q.length - s)) (rl P L)
    omega
  by_cases c : q.length - s ≤ cm (rl P L)
  · rw [if_pos (by rw [hi.mpr c]), if_pos c]
  · rw [if_neg (fun z => c (hi.mp ((nI_eq (by omega) (by omega)).mp z))), if_neg c]
theorem common_go (h : MpS G M mo um m K L) {P q : List Nat} {v : Int32} (hq : (q, v) ∈ rl P L) (hb : nb (P ++ q)) : ∀ (s f b : Nat), s ≤ q.length → f_MO_common_35 G (s + f + 2) mo (nI m) (nI (rl P L).length) (nI (num (P ++ q))) (nI (num (P ++ q.take b))) (nI s) M = some (nI (num (P ++ q.take (if q.length - s ≤ cm (rl P L) then cm (rl P L) else b)))) := by
  have hc := (cm_all (srt_rl h.2.2.2.2 P) _ hq).1
  intro s
  induction s with
  | zero =>
    intro f b hs
    rw [show 0 + f + 2 = (f + 1) + 1 by omega, common_step h hq hb hs, nI_0, show (0 : Int32) + -1 = -1 by decide, f_MO_common_35, if_pos (by decide)]
    have hc' : cm (rl P L) ≤ q.length := hc
    by_cases c : q.length - 0 ≤ cm (rl P L)
    · rw [if_pos c, if_pos c, show q.length - 0 = cm (rl P L) by omega]
    · rw [if_neg c, if_neg c]
  | succ s ih =>
    intro f b hs
    rw [show s + 1 + f + 2 = (s + f + 2) + 1 by omega, common_step h hq hb hs, pk_m1, ih f _ (by omega)]
    by_cases c : q.length - (s + 1) ≤ cm (rl P L)
    · rw [if_pos c, if_pos c]
      by_cases d : q.length - s ≤ cm (rl P L)
      · rw [if_pos d]
      · rw [if_neg d, show q.length - (s + 1) = cm (rl P L) by omega]
    · rw [if_neg c, if_neg c, if_neg (by omega)]
theorem common_eq (h : MpS G M mo um m K L) {P : List Nat} (hP : nb P) (h1 : 1 ≤ (rl P L).length) : f_MO_common G mo (nI m) (nI (num P)) M = some (nI (num (brQ P (rl P L)))) := by
  obtain ⟨j, hj, hpre, hmem⟩ := member_eq h hP h1
  have hnb := h.nb _ (List.getElem_mem hj)
  have hsp := pre_split hpre
  have hl := h.2.2.1.1
  have h4 := h.2.1
  have hin : (K[j].1.drop P.length, K[j].2) ∈ rl P L := by
    rw [rl_mem]
    show (P ++ K[j].1.drop P.length, K[j].2) ∈ L
    rw [← hsp]
    exact h.2.2.2.1.mem_iff.mp (List.getElem_mem hj)
  have hb : nb (P ++ K[j].1.drop P.length) := by rw [← hsp]; exact hnb
  have hrow := (h.2.2.1.2.2 j hj).1
  have g := h.1
  obtain ⟨r0, r1, r2, r3, r4, r5, r6, r7, g0, g1, g2, -⟩ := g
  unfold f_MO_common
  rw [members_eq h hP, Option.bind_some, hmem, Option.bind_some, r0, g0, ix_nI (by omega) (by decide), Option.bind_some, hrow]
  simp only [st]
  have hlen : K[j].1.length = P.length + (K[j].1.drop P.length).length := by
    have := congrArg List.length hsp
    rw [List.length_append] at this
    exact this
  have hle := hnb.1
  rw [MO_nibs hnb, MO_nibs hP, nI_sub' (by omega), show K[j].1.length - P.length = (K[j].1.drop P.length).length by omega]
  have hgo := common_go h hin hb (K[j].1.drop P.length).length (4094 - (K[j].1.drop P.length).length) 0 (Nat.le_refl _)
  rw [← hsp, List.take_zero, List.append_nil, show (K[j].1.drop P.length).length + (4094 - (K[j].1.drop P.length).length) + 2 = FU by unfold FU; omega, if_pos (by omega)] at hgo
  rw [hgo]
  unfold brQ
  rw [(cm_all (srt_rl h.2.2.2.2 P) _ hin).2]
def isBr (L : List Ent) (Q : List Nat) : Prop := 2 ≤ (rl Q L).length ∧ cm (rl Q L) = 0
theorem brQ_eq {P : List Nat} {A : List Ent} (hA : Srt A) (h1 : 1 ≤ A.length) : brQ P A = P ↔ cm A = 0 := by
  constructor
  · intro h
    have := brl_len (P := P) hA h1
    unfold brQ at h
    rw [h] at this
    omega
  · intro h; unfold brQ; rw [h]; simp
theorem num_eqI {p q : List Nat} (hp : nb p) (hq : nb q) : nI (num p) = nI (num q) ↔ p = q := by
  have s1 := num_sm hp
  have s2 := num_sm hq
  constructor
  · intro h; exact num_inj' hp.2 hq.2 ((nI_eq (by omega) (by omega)).mp h)
  · intro h; rw [h]
theorem common_self (h : MpS G M mo um m K L) {P : List Nat} (hP : nb P) (h1 : 1 ≤ (rl P L).length) : nI (num (brQ P (rl P L))) = nI (num P) ↔ cm (rl P L) = 0 := by
  rw [num_eqI (nb_brQ h.2.2.2.2 h1) hP, brQ_eq (srt_rl h.2.2.2.2 P) h1]
theorem rl16 (h : MpS G M mo um m K L) (P : List Nat) : (rl P L).length ≤ 16 := by
  have a := rl_len_le P K
  rw [(rl_perm h.2.2.2.1 P).length_eq] at a
  have := h.2.2.1.1
  omega
theorem isBranch_eq (h : MpS G M mo um m K L) {P : List Nat} (hP : nb P) : f_MO_isBranch G mo (nI m) (nI (num P)) M = some 0 ∧ ¬ isBr L P ∨ f_MO_isBranch G mo (nI m) (nI (num P)) M = some 1 ∧ isBr L P := by
  have h16 := rl16 h P
  unfold f_MO_isBranch
  rw [members_eq h hP, Option.bind_some]
  by_cases c : (rl P L).length ≤ 1
  · have c1 : nI (rl P L).length ≤ (1 : Int32) := nI_le c (by decide)
    rw [if_pos c1]
    exact Or.inl ⟨rfl, fun q => by have := q.1; omega⟩
  · have c1 : ¬ nI (rl P L).length ≤ (1 : Int32) := nI_ge (show 1 < (rl P L).length by omega) (by omega)
    rw [if_neg c1, common_eq h hP (by omega), Option.bind_some]
    by_cases d : cm (rl P L) = 0
    · rw [if_pos ((common_self h hP (by omega)).mpr d)]
      exact Or.inr ⟨rfl, by omega, d⟩
    · rw [if_neg (fun q => d ((common_self h hP (by omega)).mp q))]
      exact Or.inl ⟨rfl, fun q => d q.2⟩
end MP
