/-! The reference's counts. -/
theorem own_has {L : List Ent} (hL : Srt L) (p : List Nat) : ((own (rl p L)).length = 1 ∧ hasK p L) ∨ ((own (rl p L)).length = 0 ∧ ¬ hasK p L) := by
  have hS := srt_rl hL p
  rw [own_eq hS]
  by_cases c : hdk (rl p L) = [] ∧ rl p L ≠ []
  · refine Or.inl ⟨by rw [if_pos c]; rfl, ?_⟩
    obtain ⟨e, he, e1, -⟩ := hdk_mem (A := rl p L) (List.length_pos_iff.mpr c.2)
    have hm := rl_mem.mp he
    rw [← e1, c.1, List.append_nil] at hm
    exact ⟨_, hm, rfl⟩
  · refine Or.inr ⟨by rw [if_neg c]; rfl, ?_⟩
    rintro ⟨e, he, q⟩
    have hin : ([], e.2) ∈ rl p L := by
      rw [rl_mem]
      show (p ++ [], e.2) ∈ L
      rw [List.append_nil, ← q]
      exact he
    refine c ⟨?_, fun z => by rw [z] at hin; cases hin⟩
    rcases mem_ge_first hS _ hin with g | g
    · cases hh : hdk (rl p L) with
      | nil => rfl
      | cons x t => rw [hh] at g; exact g.elim
    · exact g
theorem ps_perm {L : List Ent} (hL : Srt L) {ps : List (List Nat)} (hn : ps.Nodup) (hc : Cpl L ps) : ps.Perm ((brs L).map Prod.fst) := perm_of hn (brs_nodup L) (fun x => (hc x).trans (brs_all hL).symm)
theorem sum_ps {L : List Ent} (hL : Srt L) {ps : List (List Nat)} (hn : ps.Nodup) (hc : Cpl L ps) (f : List Ent → Nat) : (ps.map (fun p => f (rl p L))).sum = ((brs L).map (fun r => f r.2.1)).sum := by
  rw [sum_perm (ps_perm hL hn hc), List.map_map]
  congr 1
  refine List.map_congr_left (fun r hr => ?_)
  show f (rl r.1 L) = f r.2.1
  rw [(brs_ok hL r hr).1]
section MN
variable {G : Nat → Nat} {M : Mm} {mo i : Nat} {um : Nat → Nat} {K L : List Ent} {ps : List (List Nat)} {a v2 : Int32}
/-- one child's share -/
theorem ext_one (h : MpS G M mo um 0 K L) {P : List Nat} (hP : nb P) {α : Type} {x y : Option α} : ((f_MO_members G mo 0 (nI (num P)) M).bind fun q4 => if q4 ≤ 1 then x else ((f_MO_common G mo 0 (nI (num P)) M).bind fun q5 => if q5 = nI (num P) then x else y)) = if we (rl P L) = 1 then y else x := by
  have h16 := rl16 h P
  have e1 := members_eq h hP
  rw [nI_0] at e1
  rw [e1, Option.bind_some]
  unfold we
  by_cases c : (rl P L).length ≤ 1
  · rw [if_pos (show nI (rl P L).length ≤ (1 : Int32) from nI_le c (by decide)), if_neg (show ¬ (2 ≤ (rl P L).length ∧ 0 < cm (rl P L)) by omega), if_neg (by decide)]
  · have e2 := common_eq h hP (by omega)
    rw [nI_0] at e2
    rw [if_neg (show ¬ nI (rl P L).length ≤ (1 : Int32) from nI_ge (show 1 < (rl P L).length by omega) (by omega)), e2, Option.bind_some]
    by_cases d : cm (rl P L) = 0
    · rw [if_pos ((common_self h hP (by omega)).mpr d), if_neg (show ¬ (2 ≤ (rl P L).length ∧ 0 < cm (rl P L)) by omega), if_neg (by decide)]
    · rw [if_neg (fun q => d ((common_self h hP (by omega)).mp q)), if_pos (show 2 ≤ (rl P L).length ∧ 0 < cm (rl P L) by omega), if_pos rfl]
theorem we_01 (A : List Ent) : we A = 0 ∨ we A = 1 := by
  unfold we
  by_cases c : 2 ≤ A.length ∧ 0 < cm A
  · rw [if_pos c]; exact Or.inr rfl
  · rw [if_neg c]; exact Or.inl rfl
theorem c73_loop {k36 : Nat → Int32 → Int32 → Int32 → Int32 → Mm → Option (Int32 × Mm)} {p : List Nat} (h : MpS G M mo um 0 K L) (hp : nb p) (h4 : p.length < 4) (hi : i < 16) (hr : gi M (um 3) i = nI (num p)) : ∀ (r c f v3 : Nat), c + r = 16 → f_MO_count_73 G k36 (r + f + 1) mo a v2 (nI v3) (nI i) (nI c) M = k36 mo a v2 (nI (v3 + ((List.range' c r).map (fun c => we (rl (p ++ [c]) L))).sum)) (nI (i + 1)) M := by
  intro r
  induction r with
  | zero =>
    intro c f v3 hc
    have hc : c = 16 := by omega
    subst hc
    have h16 : (16 : Int32) ≤ nI 16 := Int32.le_refl _
    rw [f_MO_count_73, if_pos h16, nI_1]
    rfl
  | succ r ih =>
    intro c f v3 hc
    have h16 : ¬ (16 : Int32) ≤ nI c := nI_ge (show c < 16 by omega) (by decide)
    have hx := h.1
    obtain ⟨r0, r1, r2, r3, r4, r5, r6, r7, g0, g1, g2, g3, g4, g5, g6, g7, -⟩ := hx
    rw [show r + 1 + f + 1 = (r + f + 1) + 1 by omega, f_MO_count_73, if_neg h16, r3, g3, ix_nI (show i < 64 by omega) (by decide), Option.bind_some, hr]
    simp only [st]
    rw [m16, ← num_snoc, ext_one h (nb_snoc hp h4 (show c < 16 by omega)), nI_1, nI_1, List.range'_succ, List.map_cons, List.sum_cons]
    rcases we_01 (rl (p ++ [c]) L) with e | e
    · rw [e, if_neg (by decide), ih (c + 1) f v3 (by omega), Nat.zero_add]
    · rw [e, if_pos rfl, ih (c + 1) f (v3 + 1) (by omega), Nat.add_assoc]
theorem c36_loop (h : Mb G M mo um 0 K L ps) : ∀ (l : List (List Nat)) (i f v2 v3 : Nat), ps.drop i = l → i ≤ ps.length → f_MO_count_36 G (l.length + f + 1) mo a (nI v2) (nI v3) (nI i) M = some (if a = 0 then nI K.length - nI (v2 + (l.map (fun p => (own (rl p L)).length)).sum) else if a = 1 then nI (v3 + (l.map (fun p => kw we (rl p L))).sum) else if a = 2 then nI ps.length else -1, M) := by
  have hx := h.1.1
  obtain ⟨r0, r1, r2, r3, r4, r5, r6, r7, g0, g1, g2, g3, g4, g5, g6, g7, -⟩ := hx
  have hm := h.1
  have hp := h.2.1
  have hL := hm.2.2.2.2
  intro l
  induction l with
  | nil =>
    intro i f v2 v3 hd hi
    have : ps.length ≤ i := by
      have := congrArg List.length hd
      rw [List.length_drop] at this
      simp at this
      omega
    have p1 := hp.1
    rw [f_MO_count_36]
    simp only [r5, g5, ix04, Option.bind_some, hp.2.1, r2, g2, hm.2.2.1.2.1]
    rw [if_pos ((nI_leI (by omega) (by omega)).mpr (by omega))]
    by_cases a0 : a = 0
    · rw [if_pos a0, if_pos a0]; rfl
    · rw [if_neg a0, if_neg a0]
      by_cases a1 : a = 1
      · rw [if_pos a1, if_pos a1]; rfl
      · rw [if_neg a1, if_neg a1]
        by_cases a2 : a = 2
        · rw [if_pos a2, if_pos a2]
        · rw [if_neg a2, if_neg a2]
  | cons p l ih =>
    intro i f v2 v3 hd hi
    have p1 := hp.1
    obtain ⟨hlt, he, hr⟩ := drop_at hd
    have hin : ps[i]? = some p := by rw [List.getElem?_eq_getElem hlt, he]
    have hpm : p ∈ ps := List.mem_of_getElem? hin
    have hbr := isBr_nb hL ((h.2.2.2.2 p).mp hpm)
    have hrow := hp.2.2.1 i p hin
    rw [Nat.mul_zero, Nat.zero_add] at hrow
    have hf := find_eq hm.1 hm.2.1 hm.2.2.1 (nI (num p))
    rw [nI_0, Nat.mul_zero] at hf
    have hkw : kw we (rl p L) = ((List.range' 0 16).map (fun c => we (rl (p ++ [c]) L))).sum := by
      unfold kw
      simp only [sub_rl]
    have lp : ∀ (v2 : Int32), f_MO_count_73 G (fun y0 y1 y2 y3 y4 M => f_MO_count_36 G (l.length + f + 1) y0 y1 y2 y3 y4 M) FU mo a v2 (nI v3) (nI i) 0 M = f_MO_count_36 G (l.length + f + 1) mo a v2 (nI (v3 + kw we (rl p L))) (nI (i + 1)) M := fun v2 => by
      have := c73_loop (k36 := fun y0 y1 y2 y3 y4 M => f_MO_count_36 G (l.length + f + 1) y0 y1 y2 y3 y4 M) (a := a) (v2 := v2) hm hbr.1 hbr.2 (show i < 16 by omega) hrow 16 0 4079 v3 rfl
      rw [nI_0, ← hkw] at this
      exact this
    rw [show (p :: l).length + f + 1 = (l.length + f + 1) + 1 by simp; omega, f_MO_count_36, r5, g5, ix04, Option.bind_some, hp.2.1, if_neg (nI_ge hlt (by omega)), r3, g3, ix_nI (show i < 64 by omega) (by decide), Option.bind_some, hrow, hf, Option.bind_some, lp, lp, nI_1, List.map_cons, List.sum_cons, List.map_cons, List.sum_cons, ← Nat.add_assoc, ← Nat.add_assoc]
    rcases own_has hL p with ⟨o1, o2⟩ | ⟨o1, o2⟩
    · rcases mfd_key hbr.1 hm.nb hm.2.2.1.1 with ⟨e1, e2, e3⟩ | ⟨j, hj, e1, e2, e3⟩
      · exact absurd ((hasK_perm hm.2.2.2.1).mpr o2) e3
      · have hj2 := hm.2.2.1.1
        rw [e1, if_neg (nI_pos (show j < 2 ^ 31 by omega)), o1]
        exact ih (i + 1) f (v2 + 1) _ hr (by omega)
    · rcases mfd_key hbr.1 hm.nb hm.2.2.1.1 with ⟨e1, e2, e3⟩ | ⟨j, hj, e1, e2, e3⟩
      · rw [e1, if_pos (by decide), o1, Nat.add_zero]
        exact ih (i + 1) f v2 _ hr (by omega)
      · exact absurd ((hasK_perm hm.2.2.2.1).mp ⟨_, List.getElem_mem hj, e2⟩) o2
/-- the reference's answer for each kind -/
theorem mcount_eq (h : MpS G M mo um 0 K L) : ∃ M2 ps, f_MO_count G mo a M = some (if a = 0 then nI (pw wl RD L) else if a = 1 then nI (pw we RD L) else if a = 2 then nI (brs L).length else -1, M2) ∧ Bld mo um M M2 ∧ Mb G M2 mo um 0 K L ps := by
  obtain ⟨M2, ps, e, b, m2, p2, d2, n2, c2⟩ := build_eq h
  have hb : Mb G M2 mo um 0 K L ps := ⟨m2, p2, d2, n2, c2⟩
  have hL := h.2.2.2.2
  have h16 := m2.2.2.1.1
  refine ⟨M2, ps, ?_, b, hb⟩
  have go : ∀ v3 : Nat, f_MO_count_36 G FU mo a 0 (nI v3) 0 M2 = some (if a = 0 then nI (pw wl RD L) else if a = 1 then nI (v3 + ((brs L).map (fun r => kw we r.2.1)).sum) else if a = 2 then nI (brs L).length else -1, M2) := fun v3 => by
    have p1 := p2.1
    have := c36_loop (a := a) hb ps 0 (4095 - ps.length) 0 v3 rfl (by omega)
    rw [show ps.length + (4095 - ps.length) + 1 = FU by unfold FU; omega, nI_0, sum_ps hL n2 c2 (fun A => (own A).length), sum_ps hL n2 c2 (fun A => kw we A)] at this
    rw [this]
    have hl := pw_leaves hL
    rw [Nat.zero_add, nI_sub' (by rw [m2.2.2.2.1.length_eq]; omega), m2.2.2.2.1.length_eq, show L.length - ((brs L).map (fun r => (own r.2.1).length)).sum = pw wl RD L by omega, (ps_perm hL n2 c2).length_eq, List.length_map]
  have hx := m2.1
  obtain ⟨r0, r1, r2, r3, r4, r5, r6, r7, g0, g1, g2, g3, g4, g5, g6, g7, -⟩ := hx
  have hpw := pw_brs (w := we) (by unfold we; simp) hL
  unfold f_MO_count
  rw [e, Option.bind_some, r2, g2, ix04, Option.bind_some, m2.2.2.1.2.1]
  have g0' := go 0
  have g1' : f_MO_count_36 G FU mo a 0 1 0 M2 = _ := go 1
  rw [nI_0] at g0'
  have hn1 : (1 : Int32) = nI (num []) := rfl
  by_cases c : K.length ≤ 1
  · rw [if_pos (show nI K.length ≤ (1 : Int32) from nI_le c (by decide)), g0']
    have hw : we L = 0 := by
      unfold we
      rw [if_neg]
      rw [← m2.2.2.2.1.length_eq]
      omega
    rw [hpw, hw]
  · have hr : rl [] L = L := rl_nil L
    have hl2 : 1 ≤ (rl [] L).length := by rw [hr, ← m2.2.2.2.1.length_eq]; omega
    have e2 := common_eq m2 (P := []) ⟨by simp, fun d hd => (by cases hd)⟩ hl2
    have e3 := common_self m2 (P := []) ⟨by simp, fun d hd => (by cases hd)⟩ hl2
    rw [nI_0, ← hn1] at e2
    rw [← hn1, hr] at e3
    rw [hr] at e2
    rw [if_neg (show ¬ nI K.length ≤ (1 : Int32) from nI_ge (show 1 < K.length by omega) (by omega)), e2, Option.bind_some]
    by_cases d : cm L = 0
    · rw [if_pos (e3.mpr d), g0']
      have hw : we L = 0 := by unfold we; rw [if_neg (by omega)]
      rw [hpw, hw]
    · rw [if_neg (fun q => d (e3.mp q)), g1']
      have hw : we L = 1 := by unfold we; rw [if_pos ⟨by rw [← m2.2.2.2.1.length_eq]; omega, by omega⟩]
      rw [hpw, hw]
end MN
