/-! The reference's encodings, its root numbers, its places. -/
theorem tv_rl {L : List Ent} (hL : Srt L) {P : List Nat} (hP : nb P) : tv (rl P L) = vals (nI (num P)) L := by
  have hS := srt_rl hL P
  unfold tv
  by_cases h1 : 1 ≤ (rl P L).length
  · obtain ⟨e, he, e1, e2⟩ := hdk_mem h1
    by_cases c : hdk (rl P L) = []
    · rw [if_pos c, e2]
      have hm := rl_mem.mp he
      rw [← e1, c, List.append_nil] at hm
      exact (vals_mem hL.keys _ hm rfl).symm
    · rw [if_neg c]
      symm
      refine vals_none (fun d hd q => ?_)
      have hdp : d.1 = P := (num_eqI (hL.1 d hd) hP).mp q
      have hin : ([], d.2) ∈ rl P L := by
        rw [rl_mem]
        show (P ++ [], d.2) ∈ L
        rw [List.append_nil, ← hdp]
        exact hd
      rcases mem_ge_first hS _ hin with g | g
      · cases hh : hdk (rl P L) with
        | nil => exact c hh
        | cons x t => rw [hh] at g; exact g
      · exact c g
  · have : rl P L = [] := List.length_eq_zero_iff.mp (by omega)
    rw [this, if_pos (show hdk [] = [] from rfl)]
    show (0 : Int32) = _
    symm
    refine vals_none (fun d hd q => ?_)
    have hdp : d.1 = P := (num_eqI (hL.1 d hd) hP).mp q
    have hin : ([], d.2) ∈ rl P L := by
      rw [rl_mem]
      show (P ++ [], d.2) ∈ L
      rw [List.append_nil, ← hdp]
      exact hd
    rw [this] at hin
    cases hin
theorem nb_snoc {P : List Nat} (h : nb P) (h4 : P.length < 4) {c : Nat} (hc : c < 16) : nb (P ++ [c]) := ⟨by rw [List.length_append, List.length_singleton]; omega, fun d hd => by
  rcases List.mem_append.mp hd with g | g
  · exact h.2 d g
  · rw [List.mem_singleton.mp g]; exact hc⟩
section MB
variable {G : Nat → Nat} {M : Mm} {mo m : Nat} {um : Nat → Nat} {K L : List Ent} {ps : List (List Nat)} {ws : List Int64}
theorem enc_loop {P : List Nat} (hP : nb P) (h4 : P.length < 4) (hin : ∀ c, c < 16 → 2 ≤ (rl (P ++ [c]) L).length → brQ (P ++ [c]) (rl (P ++ [c]) L) ∈ ps) : ∀ (n c f : Nat) (ws : List Int64) (M : Mm), c + n = 16 → MpS G M mo um m K L → PlS M um m ps → PlD M um m L ps → WdS M mo um ws → ws.length + 3 * n + 1 ≤ 64 → ∃ M2, f_MO_encode_2 G (n + f + 1) mo (nI m) (nI (num P)) (nI c) M = some M2 ∧ Say mo um M M2 ∧ WdS M2 mo um (ws ++ ((List.range' c n).flatMap (cwd dg (rl P L)) ++ [(tv (rl P L)).toInt64])) := by
  intro n
  induction n with
  | zero =>
    intro c f ws M hc h hp hd hw hl
    have hc : c = 16 := by omega
    subst hc
    have h16 : (16 : Int32) ≤ nI 16 := Int32.le_refl _
    obtain ⟨M2, e, s, w⟩ := say_eq h.1 hw (by omega) (vals (nI (num P)) K).toInt64
    refine ⟨M2, ?_, s, ?_⟩
    · rw [f_MO_encode_2, if_pos h16, valueIn_eq h.1 h.2.1 h.2.2.1, Option.bind_some, e]
      rfl
    · rw [tv_rl h.2.2.2.2 hP, ← vals_perm h.2.2.2.1 (h.2.2.2.2.keys.perm h.2.2.2.1.symm)]
      exact w
  | succ n ih =>
    intro c f ws M hc h hp hd hw hl
    have h16 : ¬ (16 : Int32) ≤ nI c := nI_ge (show c < 16 by omega) (by decide)
    have hcl := cwd_len dg (rl P L) c
    have hcw : cwd dg (rl P L) c = (nI (refW dg (rl (P ++ [c]) L)).length).toInt64 :: refW dg (rl (P ++ [c]) L) := by unfold cwd; rw [sub_rl]
    obtain ⟨M1, e1, s1, w1⟩ := ref1_eq h hp hd hw (by omega) (nb_snoc hP h4 (show c < 16 by omega)) (hin c (by omega))
    rw [← hcw] at w1
    obtain ⟨M2, e2, s2, w2⟩ := ih (c + 1) f _ M1 (by omega) (h.say s1) (hp.say h.1 s1) (hd.say h.1 s1) w1 (by rw [List.length_append]; omega)
    refine ⟨M2, ?_, s1.tr s2, ?_⟩
    · rw [show n + 1 + f + 1 = (n + f + 1) + 1 by omega, f_MO_encode_2, if_neg h16, m16, ← num_snoc, e1, Option.bind_some, nI_1]
      exact e2
    · rw [List.range'_succ, List.flatMap_cons, List.append_assoc, ← List.append_assoc]
      exact w2
theorem encode_eq (h : MpS G M mo um m K L) (hp : PlS M um m ps) (hd : PlD M um m L ps) (hw : WdS M mo um []) {P : List Nat} (hP : nb P) (h4 : P.length < 4) (hin : ∀ c, c < 16 → 2 ≤ (rl (P ++ [c]) L).length → brQ (P ++ [c]) (rl (P ++ [c]) L) ∈ ps) : ∃ M2, f_MO_encode G mo (nI m) (nI (num P)) M = some M2 ∧ Say mo um M M2 ∧ WdS M2 mo um (encW dg (rl P L)) := by
  obtain ⟨M2, e, s, w⟩ := enc_loop hP h4 hin 16 0 4079 [] M rfl h hp hd hw (by simp)
  refine ⟨M2, ?_, s, ?_⟩
  · rw [nI_0] at e
    exact e
  · rw [List.nil_append] at w
    unfold encW
    rw [List.range_eq_range']
    exact w
theorem dow_eq (hR : ModelR G M mo um) (hw : WdS M mo um ws) (hl : ws.length ≤ 64) : f_MO_digestOfWords G mo M = some (dig ws) := by
  obtain ⟨r0, r1, r2, r3, r4, r5, r6, r7, g0, g1, g2, g3, g4, g5, g6, g7, -⟩ := hR
  have go : ∀ (r : List Int64) (i f : Nat) (x : Int64), ws.drop i = r → i ≤ ws.length → f_MO_digestOfWords_8 G (r.length + f + 1) mo x (nI i) M = some (r.foldl f_MO_mixed x) := by
    intro r
    induction r with
    | nil =>
      intro i f x hd hi
      have : ws.length ≤ i := by
        have := congrArg List.length hd
        rw [List.length_drop] at this
        simp at this
        omega
      rw [f_MO_digestOfWords_8, hw.1, if_pos ((nI_leI (by omega) (by omega)).mpr this)]
      rfl
    | cons y r ih =>
      intro i f x hd hi
      have hlt : i < ws.length := by
        have := congrArg List.length hd
        rw [List.length_drop] at this
        simp at this
        omega
      rw [List.drop_eq_getElem_cons hlt] at hd
      obtain ⟨hy, hr⟩ := List.cons.inj hd
      rw [show (y :: r).length + f + 1 = (r.length + f + 1) + 1 by simp; omega, f_MO_digestOfWords_8, hw.1, if_neg (nI_ge (by omega) (by omega)), r6, g6, ix_nI (by omega) (by decide), Option.bind_some, hw.2 i _ (List.getElem?_eq_getElem hlt), hy]
      simp only [st]
      rw [nI_1]
      exact ih (i + 1) f _ hr (by omega)
  unfold f_MO_digestOfWords
  simp only [st]
  have := go ws 0 (4095 - ws.length) (nI ws.length).toInt64 rfl (by omega)
  rw [nI_0, show ws.length + (4095 - ws.length) + 1 = FU by unfold FU; omega] at this
  rw [hw.1]
  exact this
theorem zero_say : Say mo um M (si M mo 9 0) := ⟨rfl, fun c hc => si_ne hc, fun j hj => by
  show (if mo = mo ∧ j = 9 then _ else M.1 mo j) = _
  rw [if_neg (fun q => hj q.2)], fun _ _ => rfl⟩
theorem zero_wd : WdS (si M mo 9 0) mo um [] := ⟨by rw [gi_si, if_pos ⟨rfl, rfl⟩]; rfl, fun i x h => by simp at h⟩
def Cpl (L : List Ent) (ps : List (List Nat)) : Prop := ∀ Q, Q ∈ ps ↔ isBr L Q
theorem rootOf_eq (h : MpS G M mo um m K L) (hp : PlS M um m ps) (hd : PlD M um m L ps) (hc : Cpl L ps) : ∃ M2, f_MO_rootOf G mo (nI m) M = some (dig (refW dg L), M2) ∧ Say mo um M M2 := by
  have s0 : Say mo um M (si M mo 9 0) := zero_say
  obtain ⟨M2, e, s, w⟩ := ref0_eq (P := []) (h.say s0) (hp.say h.1 s0) (hd.say h.1 s0) zero_wd (by simp) ⟨by simp, fun d hd => by cases hd⟩ (fun h2 => (hc _).mpr (isBr_brQ h.2.2.2.2 h2))
  refine ⟨M2, ?_, s0.tr s⟩
  have hl := ref_len dg (rl [] L)
  have := dow_eq ((h.say s0).1.ref s.1) w (by rw [List.nil_append]; omega)
  rw [List.nil_append, rl_nil] at this
  unfold f_MO_rootOf
  simp only [st]
  rw [show (1 : Int32) = nI (num []) from rfl, e, Option.bind_some, this]
  rfl
theorem nodup_len : ∀ (a b : List (List Nat)), a.Nodup → (∀ x ∈ a, x ∈ b) → a.length ≤ b.length := by
  intro a
  induction a with
  | nil => intro b _ _; simp
  | cons x a ih =>
    intro b ha h
    have hn := List.nodup_cons.mp ha
    have hx := h x List.mem_cons_self
    have := ih (b.erase x) hn.2 (fun y hy => (List.mem_erase_of_ne (fun e => hn.1 (by rw [← e]; exact hy))).mpr (h y (List.mem_cons_of_mem _ hy)))
    rw [List.length_erase_of_mem hx] at this
    have := List.length_pos_of_mem hx
    rw [List.length_cons]
    omega
/-- the places so far: all longer branches, and those of v nibbles that begin a row before row i -/
def BIn (K L : List Ent) (ps : List (List Nat)) (v i : Nat) : Prop := ps.Nodup ∧ (∀ Q ∈ ps, isBr L Q) ∧ (∀ Q, isBr L Q → v < Q.length → Q ∈ ps) ∧ ∀ (j : Nat) (e : Ent), K[j]? = some e → j < i → ∀ Q, Q <+: e.1 → Q.length = v → isBr L Q → Q ∈ ps
/-- what building changes: places of map 0, words -/
def Bld (mo : Nat) (um : Nat → Nat) (M M2 : Mm) : Prop := M2.2.2 = M.2.2 ∧ (∀ c, c ≠ mo → c ≠ um 3 → c ≠ um 5 → M2.1 c = M.1 c) ∧ (∀ j, j ≠ 9 → M2.1 mo j = M.1 mo j) ∧ (∀ c, c ≠ um 6 → c ≠ um 4 → M2.2.1 c = M.2.1 c) ∧ (∀ j, 16 ≤ j → M2.1 (um 3) j = M.1 (um 3) j ∧ M2.2.1 (um 4) j = M.2.1 (um 4) j) ∧ ∀ j, 1 ≤ j → M2.1 (um 5) j = M.1 (um 5) j
theorem Bld.rf : Bld mo um M M := ⟨rfl, fun _ _ _ _ => rfl, fun _ _ => rfl, fun _ _ _ => rfl, fun _ _ => ⟨rfl, rfl⟩, fun _ _ => rfl⟩
theorem Bld.tr {M1 M2 : Mm} (h : Bld mo um M M1) (g : Bld mo um M1 M2) : Bld mo um M M2 := ⟨g.1.trans h.1, fun c a b d => (g.2.1 c a b d).trans (h.2.1 c a b d), fun j hj => (g.2.2.1 j hj).trans (h.2.2.1 j hj), fun c a b => (g.2.2.2.1 c a b).trans (h.2.2.2.1 c a b), fun j hj => ⟨(g.2.2.2.2.1 j hj).1.trans (h.2.2.2.2.1 j hj).1, (g.2.2.2.2.1 j hj).2.trans (h.2.2.2.2.1 j hj).2⟩, fun j hj => (g.2.2.2.2.2 j hj).trans (h.2.2.2.2.2 j hj)⟩
theorem Say.bld {M2 : Mm} (hR : ModelR G M mo um) (h : Say mo um M M2) : Bld mo um M M2 := by
  have n := hR.ne
  exact ⟨h.1, fun c a _ _ => h.2.1 c a, h.2.2.1, fun c a _ => h.2.2.2 c a, fun j _ => ⟨by rw [h.2.1 _ n.2.2.2.1], by rw [h.2.2.2 _ n.2.2.2.2.2.1]⟩, fun j _ => by rw [h.2.1 _ n.2.2.2.2.1]⟩
theorem ModelR.ne2 (h : ModelR G M mo um) : um 0 ≠ um 3 ∧ um 0 ≠ um 5 ∧ um 1 ≠ um 3 ∧ um 1 ≠ um 5 ∧ um 2 ≠ um 3 ∧ um 2 ≠ um 5 ∧ um 3 ≠ um 5 := by
  obtain ⟨-, -, -, -, -, -, -, -, -, -, -, -, -, -, -, -, a02, a12, a52, a01, a03, a05, a13, a15, a23, a35, -⟩ := h
  exact ⟨a03, a05, a13, a15, a23, fun e => a52 e.symm, a35⟩
theorem MpS.bld {M2 : Mm} (h : MpS G M mo um m K L) (s : Bld mo um M M2) : MpS G M2 mo um m K L := by
  have n := h.1.ne
  have n2 := h.1.ne2
  exact ⟨h.1.ref s.1, h.2.1, h.2.2.1.of (s.2.1 _ n.1 n2.1 n2.2.1) (s.2.1 _ n.2.1 n2.2.2.1 n2.2.2.2.1) (s.2.1 _ n.2.2.1 n2.2.2.2.2.1 n2.2.2.2.2.2.1), h.2.2.2⟩
end MB
