/-! The words that the reference says. -/
def PlS (M : Mm) (um : Nat → Nat) (m : Nat) (ps : List (List Nat)) : Prop := ps.length ≤ 16 ∧ gi M (um 5) m = nI ps.length ∧ (∀ (i : Nat) (p : List Nat), ps[i]? = some p → gi M (um 3) (16 * m + i) = nI (num p)) ∧ ∀ p ∈ ps, nb p
def PlD (M : Mm) (um : Nat → Nat) (m : Nat) (L : List Ent) (ps : List (List Nat)) : Prop := ∀ (i : Nat) (p : List Nat), ps[i]? = some p → gl M (um 4) (16 * m + i) = dg (rl p L)
def WdS (M : Mm) (mo : Nat) (um : Nat → Nat) (ws : List Int64) : Prop := gi M mo 9 = nI ws.length ∧ ∀ (i : Nat) (x : Int64), ws[i]? = some x → gl M (um 6) i = x
/-- what saying changes -/
def Say (mo : Nat) (um : Nat → Nat) (M M2 : Mm) : Prop := M2.2.2 = M.2.2 ∧ (∀ c, c ≠ mo → M2.1 c = M.1 c) ∧ (∀ j, j ≠ 9 → M2.1 mo j = M.1 mo j) ∧ ∀ c, c ≠ um 6 → M2.2.1 c = M.2.1 c
theorem Say.rf {mo : Nat} {um : Nat → Nat} {M : Mm} : Say mo um M M := ⟨rfl, fun _ _ => rfl, fun _ _ => rfl, fun _ _ => rfl⟩
theorem Say.tr {mo : Nat} {um : Nat → Nat} {M M1 M2 : Mm} (h : Say mo um M M1) (g : Say mo um M1 M2) : Say mo um M M2 := ⟨g.1.trans h.1, fun c hc => (g.2.1 c hc).trans (h.2.1 c hc), fun j hj => (g.2.2.1 j hj).trans (h.2.2.1 j hj), fun c hc => (g.2.2.2 c hc).trans (h.2.2.2 c hc)⟩
theorem ModelR.ref {G : Nat → Nat} {M M2 : Mm} {mo : Nat} {um : Nat → Nat} (h : ModelR G M mo um) (e : M2.2.2 = M.2.2) : ModelR G M2 mo um := by
  unfold ModelR gr at *
  rw [e]
  exact h
theorem ModelR.ne {G : Nat → Nat} {M : Mm} {mo : Nat} {um : Nat → Nat} (h : ModelR G M mo um) : um 0 ≠ mo ∧ um 1 ≠ mo ∧ um 2 ≠ mo ∧ um 3 ≠ mo ∧ um 5 ≠ mo ∧ um 4 ≠ um 6 ∧ um 7 ≠ um 6 ∧ um 4 ≠ um 7 := by
  obtain ⟨-, -, -, -, -, -, -, -, -, -, -, -, -, -, -, -, -, -, -, -, -, -, -, -, -, -, a0, a1, a2, a3, a5, a46, a47, a67, -⟩ := h
  exact ⟨fun e => a0 e.symm, fun e => a1 e.symm, fun e => a2 e.symm, fun e => a3 e.symm, fun e => a5 e.symm, a46, fun e => a67 e.symm, a47⟩
section MW
variable {G : Nat → Nat} {M M2 : Mm} {mo m : Nat} {um : Nat → Nat} {K L : List Ent} {ps : List (List Nat)} {ws : List Int64}
theorem RepK.of {K : List Ent} (h : RepK M um m K) (h0 : M2.1 (um 0) = M.1 (um 0)) (h1 : M2.1 (um 1) = M.1 (um 1)) (h2 : M2.1 (um 2) = M.1 (um 2)) : RepK M2 um m K := by
  unfold RepK Rows gi at *
  rw [h0, h1, h2]
  exact h
theorem MpS.say (h : MpS G M mo um m K L) (s : Say mo um M M2) : MpS G M2 mo um m K L := by
  have n := h.1.ne
  exact ⟨h.1.ref s.1, h.2.1, h.2.2.1.of (s.2.1 _ n.1) (s.2.1 _ n.2.1) (s.2.1 _ n.2.2.1), h.2.2.2⟩
theorem PlS.say (hR : ModelR G M mo um) (h : PlS M um m ps) (s : Say mo um M M2) : PlS M2 um m ps := by
  have n := hR.ne
  unfold PlS gi at *
  rw [s.2.1 _ n.2.2.2.1, s.2.1 _ n.2.2.2.2.1]
  exact h
theorem PlD.say (hR : ModelR G M mo um) (h : PlD M um m L ps) (s : Say mo um M M2) : PlD M2 um m L ps := by
  have n := hR.ne
  unfold PlD gl at *
  rw [s.2.2.2 _ n.2.2.2.2.2.1]
  exact h
theorem say_eq (hR : ModelR G M mo um) (h : WdS M mo um ws) (hl : ws.length < 64) (x : Int64) : ∃ M2, f_MO_say G mo x M = some M2 ∧ Say mo um M M2 ∧ WdS M2 mo um (ws ++ [x]) := by
  obtain ⟨r0, r1, r2, r3, r4, r5, r6, r7, g0, g1, g2, g3, g4, g5, g6, g7, -⟩ := hR
  refine ⟨si (sl M (um 6) ws.length x) mo 9 (nI ws.length + 1), ?_, ⟨rfl, fun c hc => si_ne hc, fun j hj => ?_, fun c hc => sl_ne hc⟩, ?_, fun i y hy => ?_⟩
  · unfold f_MO_say
    rw [h.1, r6, g6, ix_nI hl (by decide), Option.bind_some]
    simp only [st]
    rw [gi_sl, h.1]
  · show (if mo = mo ∧ j = 9 then _ else M.1 mo j) = _
    rw [if_neg (fun q => hj q.2)]
  · rw [gi_si, if_pos ⟨rfl, rfl⟩, nI_1, List.length_append]; rfl
  · rw [gl_si, gl_sl]
    by_cases c : i = ws.length
    · subst c
      rw [List.getElem?_append_right (Nat.le_refl _), Nat.sub_self] at hy
      rw [if_pos ⟨rfl, rfl⟩]
      exact Option.some.inj hy
    · have hi : i < ws.length := by
        have := (List.getElem?_eq_some_iff.mp hy).1
        rw [List.length_append, List.length_singleton] at this
        omega
      rw [List.getElem?_append_left hi] at hy
      rw [if_neg (fun q => c q.2)]
      exact h.2 i y hy
theorem place_or (hR : ModelR G M mo um) (hm : m < 4) (h : PlS M um m ps) {Q : List Nat} (hQ : nb Q) : (f_MO_place G mo (nI m) (nI (num Q)) M = some (-1) ∧ Q ∉ ps) ∨ ∃ j, j < 16 ∧ ps[j]? = some Q ∧ f_MO_place G mo (nI m) (nI (num Q)) M = some (nI (16 * m + j)) := by
  obtain ⟨h1, h4, h5, hnb⟩ := h
  obtain ⟨r0, r1, r2, r3, r4, r5, r6, r7, g0, g1, g2, g3, g4, g5, g6, g7, -⟩ := hR
  have go : ∀ (l : List (List Nat)) (i f : Nat), ps.drop i = l → i ≤ ps.length → (f_MO_place_5 G (l.length + f + 1) mo (nI m) (nI (num Q)) (nI (16 * m + i)) M = some (-1) ∧ Q ∉ l) ∨ ∃ j, j < 16 ∧ ps[j]? = some Q ∧ f_MO_place_5 G (l.length + f + 1) mo (nI m) (nI (num Q)) (nI (16 * m + i)) M = some (nI (16 * m + j)) := by
    intro l
    induction l with
    | nil =>
      intro i f hd hi
      have : ps.length ≤ i := by
        have := congrArg List.length hd
        rw [List.length_drop] at this
        simp at this
        omega
      left
      rw [f_MO_place_5, r5, g5, ix_nI hm (by decide), Option.bind_some, h4, m16, if_pos ((nI_leI (by omega) (by omega)).mpr (by omega))]
      exact ⟨rfl, fun q => by cases q⟩
    | cons e r ih =>
      intro i f hd hi
      have hlt : i < ps.length := by
        have := congrArg List.length hd
        rw [List.length_drop] at this
        simp at this
        omega
      have he : ps[i]? = some e := by
        have := List.drop_eq_getElem_cons hlt
        rw [hd] at this
        rw [List.getElem?_eq_getElem hlt, (List.cons.inj this).1]
      have hr : ps.drop (i + 1) = r := by
        have := List.drop_eq_getElem_cons hlt
        rw [hd] at this
        exact (List.cons.inj this).2.symm
      have hb := hnb e (List.mem_of_getElem? he)
      rw [show (e :: r).length + f + 1 = (r.length + f + 1) + 1 by simp; omega, f_MO_place_5, r5, g5, ix_nI hm (by decide), Option.bind_some, h4, m16, if_neg (nI_ge (by omega) (by omega)), r3, g3, ix_nI (by omega) (by decide), Option.bind_some, h5 i e he]
      by_cases c : e = Q
      · right
        subst c
        rw [if_pos rfl]
        exact ⟨i, by omega, he, rfl⟩
      · rw [if_neg (fun q => c ((num_eqI hb hQ).mp q)), nI_1, show 16 * m + i + 1 = 16 * m + (i + 1) by omega]
        rcases ih (i + 1) f hr (by omega) with ⟨a, b⟩ | q
        · left
          refine ⟨a, fun q => ?_⟩
          rcases List.mem_cons.mp q with q | q
          · exact c q.symm
          · exact b q
        · exact Or.inr q
  unfold f_MO_place
  have := go ps 0 (4095 - ps.length) rfl (by omega)
  rw [Nat.add_zero, show ps.length + (4095 - ps.length) + 1 = FU by unfold FU; omega] at this
  rw [show (16 : Int32) * nI m = nI (16 * m) from pk_mul 16 m]
  exact this
/-- the digest of a branch that has been placed -/
theorem tell (hR : ModelR G M mo um) (hm : m < 4) (h : PlS M um m ps) (hd : PlD M um m L ps) (hw : WdS M mo um ws) (hl : ws.length < 64) {Q : List Nat} (hQ : Q ∈ ps) : ∃ M2, ((f_MO_place G mo (nI m) (nI (num Q)) M).bind fun q4 => (ix q4 (G (gr M mo 6))).bind fun j5 => (f_MO_say G mo (gl M (gr M mo 6) j5) M).bind fun q6 => some q6) = some M2 ∧ Say mo um M M2 ∧ WdS M2 mo um (ws ++ [dg (rl Q L)]) := by
  rcases place_or hR hm h (h.2.2.2 Q hQ) with ⟨-, q⟩ | ⟨j, hj, hp, e⟩
  · exact absurd hQ q
  · obtain ⟨M2, e2, s, w⟩ := say_eq hR hw hl (dg (rl Q L))
    obtain ⟨r0, r1, r2, r3, r4, r5, r6, r7, g0, g1, g2, g3, g4, g5, g6, g7, -⟩ := hR
    refine ⟨M2, ?_, s, w⟩
    rw [e, Option.bind_some, r4, g4, ix_nI (by omega) (by decide), Option.bind_some, hd j Q hp, e2]
    rfl
theorem one_mem {x : Ent} {l : List Ent} (h : l.length = 1) (hx : x ∈ l) : l = [x] := by
  obtain ⟨y, rfl⟩ := List.length_eq_one_iff.mp h
  rw [List.mem_singleton.mp hx]
theorem ref_one (h : MpS G M mo um m K L) (hw : WdS M mo um ws) (hl : ws.length + 2 ≤ 64) {P : List Nat} (hP : nb P) (h1 : (rl P L).length = 1) {j : Nat} (hj : j < K.length) (hpre : P <+: K[j].1) : ∃ M2, ((ix (nI (16 * m + j)) (G (gr M mo 0))).bind fun j34 => (f_MO_say G mo ((2 * ((f_MO_behind (gi M (gr M mo 0) j34) (nI (num P))).toInt64)) + 1) M).bind fun q35 => (ix (nI (16 * m + j)) (G (gr q35 mo 1))).bind fun j37 => (f_MO_say G mo ((gi q35 (gr q35 mo 1) j37).toInt64) q35).bind fun q38 => some q38) = some M2 ∧ Say mo um M M2 ∧ WdS M2 mo um (ws ++ refW dg (rl P L)) := by
  have hsp := pre_split hpre
  have hin : (K[j].1.drop P.length, K[j].2) ∈ rl P L := by
    rw [rl_mem]
    show (P ++ K[j].1.drop P.length, K[j].2) ∈ L
    rw [← hsp]
    exact h.2.2.2.1.mem_iff.mp (List.getElem_mem hj)
  have hrl := one_mem h1 hin
  have hrow := h.2.2.1.2.2 j hj
  have h16 := h.2.2.1.1
  have hm := h.2.1
  have hbe : f_MO_behind (nI (num K[j].1)) (nI (num P)) = nI (num (K[j].1.drop P.length)) := MO_behind_eq (h.nb _ (List.getElem_mem hj)) hP hpre
  obtain ⟨M1, e1, s1, w1⟩ := say_eq h.1 hw (by omega) (2 * (nI (num (K[j].1.drop P.length))).toInt64 + 1)
  have hp1 := h.say s1
  have hrow1 := (hp1.2.2.1.2.2 j hj).2
  obtain ⟨M2, e2, s2, w2⟩ := say_eq hp1.1 w1 (by rw [List.length_append, List.length_singleton]; omega) (K[j].2).toInt64
  refine ⟨M2, ?_, s1.tr s2, ?_⟩
  · have a0 : gr M mo 0 = um 0 := h.1.1
    have a1 : gr M1 mo 1 = um 1 := hp1.1.2.1
    have g0 : G (um 0) = 64 := h.1.2.2.2.2.2.2.2.2.1
    have g1 : G (um 1) = 64 := h.1.2.2.2.2.2.2.2.2.2.1
    rw [a0, g0, ix_nI (by omega) (by decide), Option.bind_some, hrow.1, hbe, e1, Option.bind_some, a1, g1, ix_nI (by omega) (by decide), Option.bind_some, hrow1, e2]
    rfl
  · have : refW dg (rl P L) = [2 * (nI (num (K[j].1.drop P.length))).toInt64 + 1, (K[j].2).toInt64] := by
      unfold refW
      rw [if_neg (by omega), if_pos h1, hrl]
      rfl
    rw [this]
    rw [List.append_assoc] at w2
    exact w2
theorem brA_rl {P : List Nat} (hL : Srt L) : brA (rl P L) = rl (brQ P (rl P L)) L := strip_rl hL
theorem brQ_pre {P : List Nat} {A : List Ent} : P <+: brQ P A := List.prefix_append _ _
theorem ref_big (h : MpS G M mo um m K L) (hp : PlS M um m ps) (hd : PlD M um m L ps) (hw : WdS M mo um ws) (hl : ws.length + 2 ≤ 64) {P : List Nat} (hP : nb P) (h2 : 2 ≤ (rl P L).length) (hc : cm (rl P L) ≠ 0) (hin : brQ P (rl P L) ∈ ps) : ∃ M2, ((f_MO_say G mo (2 * ((f_MO_behind (nI (num (brQ P (rl P L)))) (nI (num P))).toInt64)) M).bind fun q7 => (f_MO_place G mo (nI m) (nI (num (brQ P (rl P L)))) q7).bind fun q9 => (ix q9 (G (gr q7 mo 6))).bind fun j10 => (f_MO_say G mo (gl q7 (gr q7 mo 6) j10) q7).bind fun q11 => some q11) = some M2 ∧ Say mo um M M2 ∧ WdS M2 mo um (ws ++ refW dg (rl P L)) := by
  have hbe : f_MO_behind (nI (num (brQ P (rl P L)))) (nI (num P)) = nI (num ((hdk (rl P L)).take (cm (rl P L)))) := by
    rw [MO_behind_eq (nb_brQ h.2.2.2.2 (by omega)) hP brQ_pre]
    unfold brQ
    rw [List.drop_left]
  obtain ⟨M1, e1, s1, w1⟩ := say_eq h.1 hw (by omega) (2 * (nI (num ((hdk (rl P L)).take (cm (rl P L))))).toInt64)
  have hR1 := h.1.ref s1.1
  obtain ⟨M2, e2, s2, w2⟩ := tell hR1 h.2.1 (hp.say h.1 s1) (hd.say h.1 s1) w1 (by rw [List.length_append, List.length_singleton]; omega) hin
  refine ⟨M2, ?_, s1.tr s2, ?_⟩
  · rw [hbe, e1, Option.bind_some]
    exact e2
  · have : refW dg (rl P L) = [2 * (nI (num ((hdk (rl P L)).take (cm (rl P L))))).toInt64, dg (rl (brQ P (rl P L)) L)] := by
      unfold refW
      rw [if_neg (by omega), if_neg (by omega), if_neg hc, ← brA_rl h.2.2.2.2]
      rfl
    rw [this]
    rw [List.append_assoc] at w2
    exact w2
theorem ref_small (h : MpS G M mo um m K L) (hp : PlS M um m ps) (hd : PlD M um m L ps) (hw : WdS M mo um ws) (hl : ws.length + 2 ≤ 64) {P : List Nat} (h2 : 2 ≤ (rl P L).length) (hc : cm (rl P L) = 0) (hin : brQ P (rl P L) ∈ ps) : ∃ M2, ((f_MO_place G mo (nI m) (nI (num (brQ P (rl P L)))) M).bind fun q4 => (ix q4 (G (gr M mo 6))).bind fun j5 => (f_MO_say G mo (gl M (gr M mo 6) j5) M).bind fun q6 => some q6) = some M2 ∧ Say mo um M M2 ∧ WdS M2 mo um (ws ++ refW dg (rl P L)) := by
  obtain ⟨M2, e2, s2, w2⟩ := tell h.1 h.2.1 hp hd hw (by omega) hin
  refine ⟨M2, e2, s2, ?_⟩
  have : refW dg (rl P L) = [dg (rl (brQ P (rl P L)) L)] := by
    unfold refW
    rw [if_neg (by omega), if_neg (by omega), if_pos hc, (brQ_eq (srt_rl h.2.2.2.2 P) (by omega)).mpr hc]
  rw [this]
  exact w2
theorem ref0_eq (h : MpS G M mo um m K L) (hp : PlS M um m ps) (hd : PlD M um m L ps) (hw : WdS M mo um ws) (hl : ws.length + 2 ≤ 64) {P : List Nat} (hP : nb P) (hin : 2 ≤ (rl P L).length → brQ P (rl P L) ∈ ps) : ∃ M2, f_MO_reference G mo (nI m) (nI (num P)) 0 M = some M2 ∧ Say mo um M M2 ∧ WdS M2 mo um (ws ++ refW dg (rl P L)) := by
  have h16 := rl16 h P
  unfold f_MO_reference
  rw [members_eq h hP, Option.bind_some]
  by_cases c0 : (rl P L).length = 0
  · have : refW dg (rl P L) = [] := by unfold refW; rw [if_pos c0]
    rw [c0, if_pos nI_0, if_pos rfl, this, List.append_nil]
    exact ⟨M, rfl, Say.rf, hw⟩
  have d0 : ¬ nI (rl P L).length = 0 := nI_ne0 (by omega) (by omega)
  rw [if_neg d0]
  by_cases c1 : (rl P L).length = 1
  · obtain ⟨j, hj, hpre, hmem⟩ := member_eq h hP (by omega)
    rw [if_pos (by rw [c1]; rfl), hmem, Option.bind_some, if_pos rfl]
    exact ref_one h hw hl hP c1 hj hpre
  have d1 : ¬ nI (rl P L).length = 1 := fun q => by have := (nI_eq (b := 1) (by omega) (by decide)).mp q; omega
  rw [if_neg d1, common_eq h hP (by omega), Option.bind_some, if_pos rfl]
  by_cases c2 : cm (rl P L) = 0
  · rw [if_pos ((common_self h hP (by omega)).mpr c2)]
    exact ref_small h hp hd hw hl (by omega) c2 (hin (by omega))
  · rw [if_neg (fun q => c2 ((common_self h hP (by omega)).mp q))]
    exact ref_big h hp hd hw hl hP (by omega) c2 (hin (by omega))
theorem ref1_eq (h : MpS G M mo um m K L) (hp : PlS M um m ps) (hd : PlD M um m L ps) (hw : WdS M mo um ws) (hl : ws.length + 3 ≤ 64) {P : List Nat} (hP : nb P) (hin : 2 ≤ (rl P L).length → brQ P (rl P L) ∈ ps) : ∃ M2, f_MO_reference G mo (nI m) (nI (num P)) 1 M = some M2 ∧ Say mo um M M2 ∧ WdS M2 mo um (ws ++ ((nI (refW dg (rl P L)).length).toInt64 :: refW dg (rl P L))) := by
  have h16 := rl16 h P
  have n1 : ¬ (1 : Int32) = 0 := by decide
  unfold f_MO_reference
  rw [members_eq h hP, Option.bind_some]
  have go : ∀ x : Int64, x = (nI (refW dg (rl P L)).length).toInt64 → ∃ M1, f_MO_say G mo x M = some M1 ∧ Say mo um M M1 ∧ WdS M1 mo um (ws ++ [(nI (refW dg (rl P L)).length).toInt64]) := fun x hx => by
    rw [hx]
    exact say_eq h.1 hw (by omega) _
  have l1 : ws.length + 3 = (ws ++ [(nI (refW dg (rl P L)).length).toInt64]).length + 2 := by rw [List.length_append]; rfl
  have cons : ∀ (a : Int64) (r : List Int64), ws ++ (a :: r) = (ws ++ [a]) ++ r := fun a r => by rw [List.append_assoc]; rfl
  rw [cons]
  by_cases c0 : (rl P L).length = 0
  · have e : refW dg (rl P L) = [] := by unfold refW; rw [if_pos c0]
    obtain ⟨M1, e1, s1, w1⟩ := go 0 (by rw [e]; rfl)
    rw [c0, if_pos nI_0, if_neg n1, e1, e]
    rw [e] at w1
    rw [List.append_nil]
    exact ⟨M1, rfl, s1, w1⟩
  have d0 : ¬ nI (rl P L).length = 0 := nI_ne0 (by omega) (by omega)
  rw [if_neg d0]
  by_cases c1 : (rl P L).length = 1
  · obtain ⟨j, hj, hpre, hmem⟩ := member_eq h hP (by omega)
    have e : (refW dg (rl P L)).length = 2 := by unfold refW; rw [if_neg (by omega), if_pos c1]; rfl
    obtain ⟨M1, e1, s1, w1⟩ := go 2 (by rw [e]; rfl)
    rw [if_pos (by rw [c1]; rfl), hmem, Option.bind_some, if_neg n1, e1, Option.bind_some]
    obtain ⟨M2, e2, s2, w2⟩ := ref_one (h.say s1) w1 (by omega) hP c1 hj hpre
    exact ⟨M2, e2, s1.tr s2, w2⟩
  have d1 : ¬ nI (rl P L).length = 1 := fun q => by have := (nI_eq (b := 1) (by omega) (by decide)).mp q; omega
  rw [if_neg d1, common_eq h hP (by omega), Option.bind_some, if_neg n1]
  by_cases c2 : cm (rl P L) = 0
  · have k := (common_self h hP (by omega)).mpr c2
    have e : (refW dg (rl P L)).length = 1 := by unfold refW; rw [if_neg c0, if_neg c1, if_pos c2]; rfl
    obtain ⟨M1, e1, s1, w1⟩ := go 1 (by rw [e]; rfl)
    rw [if_pos k, e1, Option.bind_some, if_pos k]
    obtain ⟨M2, e2, s2, w2⟩ := ref_small (h.say s1) (hp.say h.1 s1) (hd.say h.1 s1) w1 (by omega) (by omega) c2 (hin (by omega))
    exact ⟨M2, e2, s1.tr s2, w2⟩
  · have k : ¬ nI (num (brQ P (rl P L))) = nI (num P) := fun q => c2 ((common_self h hP (by omega)).mp q)
    have e : (refW dg (rl P L)).length = 2 := by unfold refW; rw [if_neg c0, if_neg c1, if_neg c2]; rfl
    obtain ⟨M1, e1, s1, w1⟩ := go 2 (by rw [e]; rfl)
    rw [if_neg k, e1, Option.bind_some, if_neg k]
    obtain ⟨M2, e2, s2, w2⟩ := ref_big (h.say s1) (hp.say h.1 s1) (hd.say h.1 s1) w1 (by omega) hP (by omega) c2 (hin (by omega))
    exact ⟨M2, e2, s1.tr s2, w2⟩
end MW
