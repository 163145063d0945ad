/-! The reference builds its places. -/
section MC
variable {G : Nat → Nat} {mo : Nat} {um : Nat → Nat} {K L : List Ent}
def BS (G : Nat → Nat) (M : Mm) (mo : Nat) (um : Nat → Nat) (K L : List Ent) (v i : Nat) (ps : List (List Nat)) : Prop := MpS G M mo um 0 K L ∧ PlS M um 0 ps ∧ PlD M um 0 L ps ∧ BIn K L ps v i
theorem b18_end {M : Mm} {k9 : Nat → Int32 → Int32 → Mm → Option Mm} {f v i : Nat} (h : MpS G M mo um 0 K L) (hi : K.length ≤ i) (hi2 : i < 2 ^ 31) : f_MO_build_18 G k9 (f + 1) mo (nI 0) (nI v) (nI i) M = k9 mo (nI 0) (nI v + (-1)) M := by
  obtain ⟨r0, r1, r2, r3, r4, r5, r6, r7, g0, g1, g2, -⟩ := h.1
  have h4 := h.2.2.1.2.1
  have h16 := h.2.2.1.1
  rw [f_MO_build_18, r2, g2, ix_nI (by omega) (by decide), Option.bind_some, h4, m16, if_pos ((nI_leI (by omega) (by omega)).mpr (by omega))]
theorem b18_skip {M : Mm} {k9 : Nat → Int32 → Int32 → Mm → Option Mm} {f v i : Nat} {e : Ent} {ps : List (List Nat)} (h : MpS G M mo um 0 K L) (hp : PlS M um 0 ps) (he : K[i]? = some e) (hv : v ≤ 3) (hs : e.1.length < v ∨ e.1.take v ∈ ps ∨ ¬ isBr L (e.1.take v)) : f_MO_build_18 G k9 (f + 1) mo (nI 0) (nI v) (nI i) M = f_MO_build_18 G k9 f mo (nI 0) (nI v) (nI (i + 1)) M := by
  have hi := (List.getElem?_eq_some_iff.mp he).1
  have hb := h.nb e (List.mem_of_getElem? he)
  have hrow := (rows_iff.mp h.2.2.1.2.2 i e he).1
  rw [Nat.mul_zero, Nat.zero_add] at hrow
  have h4 := h.2.2.1.2.1
  have h16 := h.2.2.1.1
  have hsm := num_sm hb
  have hl := hb.1
  have r := h.1
  obtain ⟨r0, r1, r2, r3, r4, r5, r6, r7, g0, g1, g2, -⟩ := r
  rw [f_MO_build_18, r2, g2, ix_nI (by omega) (by decide), Option.bind_some, h4, m16, if_neg (nI_ge (by omega) (by omega)), r0, g0, ix_nI (by omega) (by decide), Option.bind_some, hrow, MO_nibs hb]
  simp only [st]
  by_cases c : e.1.length < v
  · rw [if_pos (pk_sneg (by omega) c), if_pos (by decide), nI_1]
  · have hft : num e.1 / 16 ^ (e.1.length - v) = num (e.1.take v) := num_front hb.2 (by omega)
    have hnt := nb_take hb v
    have hst := num_sm hnt
    rw [nI_sub' (by omega), if_neg (nI_pos (by omega)), Option.bind_some, hrow, sh_r (by omega) (by omega), hft, if_neg (nI_nle (by omega) (by omega)), nI_1]
    rcases place_or h.1 (by omega) hp hnt with ⟨e1, e2⟩ | ⟨j, hj, e1, e2⟩
    · rw [e1, Option.bind_some, if_neg (by decide)]
      rcases hs with hs | hs | hs
      · exact absurd hs c
      · exact absurd hs e2
      · rcases isBranch_eq h hnt with ⟨q1, q2⟩ | ⟨q1, q2⟩
        · rw [q1, Option.bind_some, if_pos rfl]
        · exact absurd q2 hs
    · rw [e2, Option.bind_some, if_pos (nI_pos' (by omega))]
theorem b18_add {M : Mm} {k9 : Nat → Int32 → Int32 → Mm → Option Mm} {f v i : Nat} {e : Ent} {ps : List (List Nat)} (h : BS G M mo um K L v i ps) (he : K[i]? = some e) (hv : v ≤ 3) (hle : v ≤ e.1.length) (hn : e.1.take v ∉ ps) (hbr : isBr L (e.1.take v)) : ∃ M2, f_MO_build_18 G k9 (f + 1) mo (nI 0) (nI v) (nI i) M = f_MO_build_18 G k9 f mo (nI 0) (nI v) (nI (i + 1)) M2 ∧ Bld mo um M M2 ∧ PlS M2 um 0 (ps ++ [e.1.take v]) ∧ PlD M2 um 0 L (ps ++ [e.1.take v]) := by
  obtain ⟨hm, hp, hd, hI⟩ := h
  have hL := hm.2.2.2.2
  have hi := (List.getElem?_eq_some_iff.mp he).1
  have hb := hm.nb e (List.mem_of_getElem? he)
  have hrow := (rows_iff.mp hm.2.2.1.2.2 i e he).1
  rw [Nat.mul_zero, Nat.zero_add] at hrow
  have h4 := hm.2.2.1.2.1
  have h16 := hm.2.2.1.1
  have hsm := num_sm hb
  have hl := hb.1
  have hft : num e.1 / 16 ^ (e.1.length - v) = num (e.1.take v) := num_front hb.2 (by omega)
  have hnt := nb_take hb v
  have hst := num_sm hnt
  have hlt : (e.1.take v).length = v := by rw [List.length_take]; omega
  have hps : ps.length < 16 := by
    have hL16 : L.length ≤ 16 := by rw [← hm.2.2.2.1.length_eq]; exact h16
    have := nodup_len ps _ hI.1 (fun Q hQ => (brs_all hL).mpr (hI.2.1 Q hQ))
    rw [List.length_map] at this
    have := brs_len hL hL16
    omega
  have hin : ∀ c, c < 16 → 2 ≤ (rl (e.1.take v ++ [c]) L).length → brQ (e.1.take v ++ [c]) (rl (e.1.take v ++ [c]) L) ∈ ps := fun c hc h2 => by
    refine hI.2.2.1 _ (isBr_brQ hL h2) ?_
    have := (brQ_pre (P := e.1.take v ++ [c]) (A := rl (e.1.take v ++ [c]) L)).length_le
    rw [List.length_append, List.length_singleton, hlt] at this
    omega
  have s0 : Say mo um M (si M mo 9 0) := zero_say
  obtain ⟨N, e1, s1, w1⟩ := encode_eq (hm.say s0) (hp.say hm.1 s0) (hd.say hm.1 s0) zero_wd hnt (by omega) hin
  have sN := s0.tr s1
  have mN := hm.say sN
  have pN := hp.say hm.1 sN
  have dN := hd.say hm.1 sN
  have n1 := hm.1.ne
  have n2 := hm.1.ne2
  have rN := mN.1
  have rM := hm.1
  obtain ⟨r0, r1, r2, r3, r4, r5, r6, r7, g0, g1, g2, g3, g4, g5, g6, g7, -⟩ := rN
  obtain ⟨t0, t1, t2, t3, t4, t5, t6, t7, -⟩ := rM
  have wN3 : WdS (si N (um 3) ps.length (nI (num (e.1.take v)))) mo um (encW dg (rl (e.1.take v) L)) := ⟨by rw [gi_si, if_neg (fun q => n1.2.2.2.1 q.1.symm)]; exact w1.1, fun j x hx => w1.2 j x hx⟩
  have hel := enc_len dg (rl (e.1.take v) L)
  have hdo := dow_eq (M := si N (um 3) ps.length (nI (num (e.1.take v)))) (mN.1.ref rfl) wN3 (by omega)
  rw [← dg_eq (srt_len (srt_rl hL _))] at hdo
  have c5 : ∀ x : Int32, gi (si N (um 3) ps.length x) (um 5) 0 = nI ps.length := fun x => by rw [gi_si, if_neg (fun q => n2.2.2.2.2.2.2 q.1.symm)]; exact pN.2.1
  refine ⟨si (sl (si N (um 3) ps.length (nI (num (e.1.take v)))) (um 4) ps.length (dg (rl (e.1.take v) L))) (um 5) 0 (nI ps.length + 1), ?_, ?_, ?_, ?_⟩
  · rw [f_MO_build_18, t2, g2, ix_nI (by omega) (by decide), Option.bind_some, h4, m16, if_neg (nI_ge (by omega) (by omega)), t0, g0, ix_nI (by omega) (by decide), Option.bind_some, hrow, MO_nibs hb]
    simp only [st]
    rw [nI_sub' (by omega), if_neg (nI_pos (by omega)), Option.bind_some, hrow, sh_r (by omega) (by omega), hft, if_neg (nI_nle (by omega) (by omega)), nI_1]
    rcases place_or hm.1 (by omega) hp hnt with ⟨q1, q2⟩ | ⟨j, hj, q1, q2⟩
    · rw [q1, Option.bind_some, if_neg (by decide)]
      rcases isBranch_eq hm hnt with ⟨p1, p2⟩ | ⟨p1, p2⟩
      · exact absurd hbr p2
      · have i5 : ix (nI 0) 4 = some 0 := ix_nI (by omega) (by decide)
        have il : ix ((16 : Int32) * nI 0 + nI ps.length) 64 = some ps.length := by rw [m16, Nat.mul_zero, Nat.zero_add]; exact ix_nI (by omega) (by decide)
        rw [p1, Option.bind_some, if_neg (by decide), e1, Option.bind_some, r5, g5, i5, Option.bind_some, pN.2.1, r3, g3, il, Option.bind_some, gr_si, r5, g5, i5, Option.bind_some, hdo, Option.bind_some, c5, gr_si, r4, g4, il, Option.bind_some, gr_sl, gr_si, r5, g5, i5, Option.bind_some, Option.bind_some, gi_sl, c5]
    · exact absurd (List.mem_of_getElem? q1) hn
  · refine (sN.bld hm.1).tr ⟨rfl, fun c a b d => ?_, fun j hj => ?_, fun c a b => ?_, fun j hj => ⟨?_, ?_⟩, fun j hj => ?_⟩
    · rw [si_ne d]
      show (si N (um 3) ps.length _).1 c = N.1 c
      rw [si_ne b]
    · rw [si_ne (fun q => n1.2.2.2.2.1 q.symm)]
      show (si N (um 3) ps.length _).1 mo j = N.1 mo j
      rw [si_ne (fun q => n1.2.2.2.1 q.symm)]
    · show (sl (si N (um 3) ps.length _) (um 4) ps.length _).2.1 c = N.2.1 c
      rw [sl_ne b]
      rfl
    · rw [si_ne n2.2.2.2.2.2.2]
      show gi (si N (um 3) ps.length _) (um 3) j = gi N (um 3) j
      rw [gi_si, if_neg (fun q => by have := q.2; omega)]
    · show gl (si (sl (si N (um 3) ps.length _) (um 4) ps.length _) (um 5) 0 _) (um 4) j = gl N (um 4) j
      rw [gl_si, gl_sl, if_neg (fun q => by have := q.2; omega)]
      rfl
    · show gi (si (sl (si N (um 3) ps.length _) (um 4) ps.length _) (um 5) 0 _) (um 5) j = gi N (um 5) j
      rw [gi_si, if_neg (fun q => by have := q.2; omega), gi_sl, gi_si, if_neg (fun q => n2.2.2.2.2.2.2 q.1.symm)]
  · refine ⟨by rw [List.length_append, List.length_singleton]; omega, by rw [gi_si, if_pos ⟨rfl, rfl⟩, nI_1, List.length_append]; rfl, fun j p hj => ?_, fun p hq => ?_⟩
    · rw [gi_si, if_neg (fun q => n2.2.2.2.2.2.2 q.1), gi_sl, gi_si, Nat.mul_zero, Nat.zero_add]
      by_cases c : j = ps.length
      · subst c
        rw [List.getElem?_append_right (Nat.le_refl _), Nat.sub_self] at hj
        rw [if_pos ⟨rfl, rfl⟩, ← Option.some.inj hj]
      · have hj2 : j < ps.length := by
          have := (List.getElem?_eq_some_iff.mp hj).1
          rw [List.length_append, List.length_singleton] at this
          omega
        rw [List.getElem?_append_left hj2] at hj
        have := pN.2.2.1 j p hj
        rw [Nat.mul_zero, Nat.zero_add] at this
        rw [if_neg (fun q => c q.2)]
        exact this
    · rcases List.mem_append.mp hq with g | g
      · exact pN.2.2.2 p g
      · rw [List.mem_singleton.mp g]; exact hnt
  · intro j p hj
    rw [gl_si, gl_sl, Nat.mul_zero, Nat.zero_add]
    by_cases c : j = ps.length
    · subst c
      rw [List.getElem?_append_right (Nat.le_refl _), Nat.sub_self] at hj
      rw [if_pos ⟨rfl, rfl⟩, ← Option.some.inj hj]
    · have hj2 : j < ps.length := by
        have := (List.getElem?_eq_some_iff.mp hj).1
        rw [List.length_append, List.length_singleton] at this
        omega
      rw [List.getElem?_append_left hj2] at hj
      have := dN j p hj
      rw [Nat.mul_zero, Nat.zero_add] at this
      rw [if_neg (fun q => c q.2)]
      exact this
theorem b18_loop {k9 : Nat → Int32 → Int32 → Mm → Option Mm} {v : Nat} (hv : v ≤ 3) : ∀ (n i f : Nat) (ps : List (List Nat)) (M : Mm), i + n = K.length → BS G M mo um K L v i ps → ∃ M2 ps2, f_MO_build_18 G k9 (n + f + 1) mo (nI 0) (nI v) (nI i) M = k9 mo (nI 0) (nI v + (-1)) M2 ∧ Bld mo um M M2 ∧ BS G M2 mo um K L v K.length ps2 := by
  intro n
  induction n with
  | zero =>
    intro i f ps M hi h
    have hi : i = K.length := by omega
    subst hi
    have h16 := h.1.2.2.1.1
    exact ⟨M, ps, by rw [Nat.zero_add]; exact b18_end h.1 (Nat.le_refl _) (by omega), Bld.rf, h⟩
  | succ n ih =>
    intro i f ps M hi h
    have hlt : i < K.length := by omega
    obtain ⟨e, he⟩ : ∃ e, K[i]? = some e := ⟨_, List.getElem?_eq_getElem hlt⟩
    have hI := h.2.2.2
    by_cases c : e.1.length < v ∨ e.1.take v ∈ ps ∨ ¬ isBr L (e.1.take v)
    · rw [show n + 1 + f + 1 = (n + f + 1) + 1 by omega, b18_skip h.1 h.2.1 he hv c]
      refine ih (i + 1) f ps M (by omega) ⟨h.1, h.2.1, h.2.2.1, hI.1, hI.2.1, hI.2.2.1, fun j e' he' hj Q hQ hl hb => ?_⟩
      by_cases ej : j = i
      · subst ej
        have : e' = e := Option.some.inj (he'.symm.trans he)
        subst this
        have hle := hQ.length_le
        have hQe : Q = e'.1.take v := by
          have := List.prefix_iff_eq_take.mp hQ
          rw [hl] at this
          exact this
        rcases c with c | c | c
        · omega
        · rw [hQe]; exact c
        · rw [hQe] at hb; exact absurd hb c
      · exact hI.2.2.2 j e' he' (by omega) Q hQ hl hb
    · have c1 : ¬ e.1.length < v := fun q => c (Or.inl q)
      have c2 : e.1.take v ∉ ps := fun q => c (Or.inr (Or.inl q))
      have c3 : isBr L (e.1.take v) := Classical.byContradiction fun q => c (Or.inr (Or.inr q))
      obtain ⟨M1, e1, b1, p1, d1⟩ := b18_add (k9 := k9) (f := n + f + 1) h he hv (by omega) c2 c3
      obtain ⟨M2, ps2, e2, b2, s2⟩ := ih (i + 1) f (ps ++ [e.1.take v]) M1 (by omega) ⟨h.1.bld b1, p1, d1, by
          rw [List.nodup_append]
          refine ⟨hI.1, by simp, fun a ha b hb => ?_⟩
          rw [List.mem_singleton.mp hb]
          intro q
          rw [q] at ha
          exact c2 ha, fun Q hQ => by
          rcases List.mem_append.mp hQ with g | g
          · exact hI.2.1 Q g
          · rw [List.mem_singleton.mp g]; exact c3, fun Q hQ hl => List.mem_append_left _ (hI.2.2.1 Q hQ hl), fun j e' he' hj Q hQ hl hb => by
          by_cases ej : j = i
          · subst ej
            have : e' = e := Option.some.inj (he'.symm.trans he)
            subst this
            have hQe : Q = e'.1.take v := by
              have := List.prefix_iff_eq_take.mp hQ
              rw [hl] at this
              exact this
            rw [hQe]
            exact List.mem_append_right _ List.mem_cons_self
          · exact List.mem_append_left _ (hI.2.2.2 j e' he' (by omega) Q hQ hl hb)⟩
      refine ⟨M2, ps2, ?_, b1.tr b2, s2⟩
      rw [show n + 1 + f + 1 = (n + f + 1) + 1 by omega, e1]
      exact e2
theorem b9_loop : ∀ (v f : Nat) (ps : List (List Nat)) (M : Mm), v ≤ 3 → BS G M mo um K L v 0 ps → ∃ M2 ps2, f_MO_build_9 G (v + f + 2) mo (nI 0) (nI v) M = some M2 ∧ Bld mo um M M2 ∧ MpS G M2 mo um 0 K L ∧ PlS M2 um 0 ps2 ∧ PlD M2 um 0 L ps2 ∧ ps2.Nodup ∧ Cpl L ps2 := by
  have full : ∀ {M : Mm} {v : Nat} {ps : List (List Nat)}, BS G M mo um K L v K.length ps → ∀ Q, isBr L Q → Q.length = v → Q ∈ ps := fun {M v ps} h Q hQ hl => by
    obtain ⟨e, he, -, -⟩ := hdk_mem (A := rl Q L) (by have := hQ.1; omega)
    have hk := h.1.2.2.2.1.mem_iff.mpr (rl_mem.mp he)
    obtain ⟨j, hj⟩ := List.getElem?_of_mem hk
    exact h.2.2.2.2.2.2 j _ hj (List.getElem?_eq_some_iff.mp hj).1 Q (List.prefix_append _ _) hl hQ
  have sixt : ∀ {M : Mm} {v : Nat} {ps : List (List Nat)}, BS G M mo um K L v 0 ps → (16 : Int32) * nI 0 = nI 0 ∧ K.length ≤ 16 := fun {M v ps} h => ⟨by rw [show (16 : Int32) = nI 16 from rfl, pk_mul], h.1.2.2.1.1⟩
  intro v
  induction v with
  | zero =>
    intro f ps M hv h
    obtain ⟨s1, s2⟩ := sixt h
    obtain ⟨M2, ps2, e, b, s⟩ := b18_loop (k9 := fun y0 y1 y2 M => f_MO_build_9 G (f + 1) y0 y1 y2 M) hv K.length 0 (4095 - K.length) ps M (by omega) h
    refine ⟨M2, ps2, ?_, b, s.1, s.2.1, s.2.2.1, s.2.2.2.1, fun Q => ⟨s.2.2.2.2.1 Q, fun hQ => ?_⟩⟩
    · rw [show 0 + f + 2 = (f + 1) + 1 by omega, f_MO_build_9, if_neg (nI_pos (by omega)), s1, show FU = K.length + (4095 - K.length) + 1 by unfold FU; omega, e]
      show f_MO_build_9 G (f + 1) mo (nI 0) (nI 0 + (-1)) M2 = _
      rw [nI_0, show (0 : Int32) + -1 = -1 by decide, f_MO_build_9, if_pos (by decide)]
    · by_cases c : 0 < Q.length
      · exact s.2.2.2.2.2.1 Q hQ c
      · exact full s Q hQ (by omega)
  | succ v ih =>
    intro f ps M hv h
    obtain ⟨s1, s2⟩ := sixt h
    obtain ⟨M1, ps1, e, b, s⟩ := b18_loop (k9 := fun y0 y1 y2 M => f_MO_build_9 G (v + f + 2) y0 y1 y2 M) hv K.length 0 (4095 - K.length) ps M (by omega) h
    obtain ⟨M2, ps2, e2, b2, t⟩ := ih f ps1 M1 (by omega) ⟨s.1, s.2.1, s.2.2.1, s.2.2.2.1, s.2.2.2.2.1, fun Q hQ hl => by
      by_cases c : v + 1 < Q.length
      · exact s.2.2.2.2.2.1 Q hQ c
      · exact full s Q hQ (by omega), fun j e' _ hj => by omega⟩
    refine ⟨M2, ps2, ?_, b.tr b2, t⟩
    rw [show v + 1 + f + 2 = (v + f + 2) + 1 by omega, f_MO_build_9, if_neg (nI_pos (by omega)), s1, show FU = K.length + (4095 - K.length) + 1 by unfold FU; omega, e]
    show f_MO_build_9 G (v + f + 2) mo (nI 0) (nI (v + 1) + (-1)) M1 = _
    rw [pk_m1]
    exact e2
theorem build_eq {M : Mm} (h : MpS G M mo um 0 K L) : ∃ M2 ps, f_MO_build G mo 0 M = some M2 ∧ Bld mo um M M2 ∧ MpS G M2 mo um 0 K L ∧ PlS M2 um 0 ps ∧ PlD M2 um 0 L ps ∧ ps.Nodup ∧ Cpl L ps := by
  have n1 := h.1.ne
  have n2 := h.1.ne2
  have b0 : Bld mo um M (si M (um 5) 0 0) := ⟨rfl, fun c _ _ d => si_ne d, fun j _ => by rw [si_ne (fun q => n1.2.2.2.2.1 q.symm)], fun _ _ _ => rfl, fun j _ => ⟨by rw [si_ne n2.2.2.2.2.2.2], rfl⟩, fun j hj => by
    show gi (si M (um 5) 0 0) (um 5) j = gi M (um 5) j
    rw [gi_si, if_neg (fun q => by have := q.2; omega)]⟩
  obtain ⟨M2, ps, e, b, t⟩ := b9_loop (G := G) (mo := mo) (um := um) (K := K) (L := L) 3 4091 [] (si M (um 5) 0 0) (by omega) ⟨h.bld b0, ⟨by simp, (by rw [gi_si, if_pos ⟨rfl, rfl⟩]; rfl), fun i p hp => (by simp at hp), fun p hp => (by cases hp)⟩, fun i p hp => (by simp at hp), List.nodup_nil, fun Q hQ => (by cases hQ), fun Q hQ hl => (by have := (isBr_nb h.2.2.2.2 hQ).2; omega), fun j e' _ hj => (by omega)⟩
  refine ⟨M2, ps, ?_, b0.tr b, t⟩
  have r := h.1
  obtain ⟨r0, r1, r2, r3, r4, r5, r6, r7, g0, g1, g2, g3, g4, g5, -⟩ := r
  unfold f_MO_build
  rw [r5, g5, ix04, Option.bind_some]
  simp only [st]
  rw [nI_0, show 3 + 4091 + 2 = FU from rfl, show nI 3 = (3 : Int32) from rfl] at e
  exact e
end MC
