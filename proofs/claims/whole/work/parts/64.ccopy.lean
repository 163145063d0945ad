/-! A trie becomes like another. -/
theorem cp_ok {G : Nat → Nat} {M : Mm} {a0 a n : Nat} (hn : n < 2 ^ 31) (h0 : n ≤ G a0) (h1 : n ≤ G a) : ∃ M2, cpI G M a0 0 a 0 (nI n) = some M2 ∧ M2.2 = M.2 ∧ (∀ c, c ≠ a → M2.1 c = M.1 c) ∧ (∀ j, j < n → M2.1 a j = M.1 a0 j) := by
  unfold cpI
  have z : ((0 : Int32).toNatClampNeg) = 0 := by decide
  rw [z, nI_clamp hn, Nat.zero_add, if_neg]
  · refine ⟨_, rfl, rfl, fun c hc => ?_, fun j hj => ?_⟩
    · funext j
      show (if c = a then _ else _) = _
      rw [if_neg hc]
    · show (if a = a then _ else _) = _
      rw [if_pos rfl, pk_cpy_in (Nat.zero_le _) (by omega), show 0 + (j - 0) = j by omega]
  · rintro (q | q | q | q | q)
    · exact absurd q (by decide)
    · exact absurd q (by decide)
    · exact nI_pos hn q
    · omega
    · omega
section CB
variable {G : Nat → Nat} {z y : Nat} {u v : Nat → Nat} {L K : List Ent}
/-- two tries' cells are apart -/
def Apt (z y : Nat) (u v : Nat → Nat) : Prop := z ≠ y ∧ (∀ i, i < 13 → z ≠ v i) ∧ (∀ i, i < 13 → y ≠ u i) ∧ ∀ i j, i < 13 → j < 13 → u i ≠ v j
theorem Apt.not {M : Mm} (h : Apt z y u v) (hz : TrS G M z u) (hy : TrS G M y v) : y ∉ tcs z u ∧ ∀ i, i < 13 → v i ∉ tcs z u := by
  constructor
  · intro q
    simp only [tcs, List.mem_cons, List.not_mem_nil, or_false] at q
    rcases q with q | q | q | q | q | q | q | q
    · exact h.1 q.symm
    all_goals exact h.2.2.1 _ (by omega) q
  · intro i hi q
    simp only [tcs, List.mem_cons, List.not_mem_nil, or_false] at q
    rcases q with q | q | q | q | q | q | q | q
    · exact h.2.1 i hi q.symm
    all_goals exact h.2.2.2 _ _ (by omega) hi q.symm
theorem TrI.off {M M2 : Mm} (h : TrI G M y v L) (hr : M2.2.2 = M.2.2) (h0 : M2.1 y = M.1 y) (hv : ∀ i, i < 13 → M2.1 (v i) = M.1 (v i)) : TrI G M2 y v L := by
  obtain ⟨ht, hl⟩ := h
  refine ⟨⟨ht.1.ref hr, ht.2.1.cells ht.1.1.2.1 ht.1.1.2.2.1 hr (hv 0 (by omega)) (hv 1 (by omega)) (hv 2 (by omega)), ht.2.2⟩, ?_⟩
  unfold LsS gi at *
  rw [h0, hv 4 (by omega), hv 5 (by omega), hv 6 (by omega), hv 3 (by omega)]
  exact hl
theorem TrI.only {M M2 : Mm} (h : TrI G M y v L) (hz : TrS G M z u) (ha : Apt z y u v) (ho : Only M M2 (tcs z u)) : TrI G M2 y v L := by
  have n := ha.not hz h.1.1
  exact h.off (by rw [ho.1]) (ho.2 _ n.1) (fun i hi => ho.2 _ (n.2 i hi))
theorem like_eq {M : Mm} (hz : TrI G M z u K) (hy : TrI G M y v L) (ha : Apt z y u v) : ∃ M2, f_TR_becomeLike G z y M = some M2 ∧ Only M M2 (tcs z u) ∧ TrI G M2 z u L := by
  obtain ⟨tz, -⟩ := hz
  obtain ⟨ty, ly⟩ := hy
  have hL := ty.2.1.1
  have hB := brs_len ty.2.2 hL
  have nz : ∀ i, i < 13 → z ≠ u i := tz.1.2.2.2
  have nu : ∀ i j, i < 13 → j < 13 → i ≠ j → u i ≠ u j := fun i j a b c e => c (tz.1.2.2.1 i j a b e)
  obtain ⟨zr0, zr1, zr2, zr3, zr4, zr5, zr6, zr7, zr8, zr9⟩ := tz.1.1
  obtain ⟨yr0, yr1, yr2, yr3, yr4, yr5, yr6, yr7, yr8, yr9⟩ := ty.1.1
  obtain ⟨zg1, zg2, zg3, zg4, zg5, zg6, zg7, zg8, zg9⟩ := tz.1.2.1
  obtain ⟨yg1, yg2, yg3, yg4, yg5, yg6, yg7, yg8, yg9⟩ := ty.1.2.1
  have n1 : gi M (v 0) 2 = nI L.length := ty.2.1.2.2.2.1
  have e1 : gi (si M (u 0) 2 (nI L.length)) (u 0) 2 = nI L.length := by rw [gi_si, if_pos ⟨rfl, rfl⟩]
  obtain ⟨M2, p2, r2, c2, w2⟩ := cp_ok (G := G) (M := si M (u 0) 2 (nI L.length)) (a0 := v 1) (a := u 1) (n := L.length) (by omega) (by omega) (by omega)
  have e2 : gi M2 (u 0) 2 = nI L.length := by show M2.1 (u 0) 2 = _; rw [c2 _ (nu 0 1 (by omega) (by omega) (by omega))]; exact e1
  obtain ⟨M3, p3, r3, c3, w3⟩ := cp_ok (G := G) (M := M2) (a0 := v 2) (a := u 2) (n := L.length) (by omega) (by omega) (by omega)
  have g2 : ∀ a j, gr M2 a j = gr M a j := fun a j => by show M2.2.2 a j = _; rw [r2]; rfl
  have g3 : ∀ a j, gr M3 a j = gr M a j := fun a j => by show M3.2.2 a j = _; rw [r3]; exact g2 a j
  have y3 : ∀ j, gi M3 y j = gi M y j := fun j => by
    show M3.1 y j = _
    rw [c3 _ (ha.2.2.1 2 (by omega)), c2 _ (ha.2.2.1 1 (by omega)), si_ne (ha.2.2.1 0 (by omega))]
    rfl
  have hcopy : f_PM_copy G (u 0) (v 0) M = some M3 := by
    unfold f_PM_copy
    rw [n1]
    simp only [st, gr_si, e1, zr1, yr1, p2, Option.bind_some, g2, zr2, yr2, e2, p3]
  have ym : ∀ (a b : Int32) (k j : Nat), gi (si (si M3 z k a) z j b) y 3 = gi M y 3 ∧ gi (si M3 z k a) y j = gi M y j := fun a b k j => by
    refine ⟨?_, ?_⟩
    · rw [gi_si, if_neg (fun q => ha.1 q.1.symm), gi_si, if_neg (fun q => ha.1 q.1.symm)]; exact y3 3
    · rw [gi_si, if_neg (fun q => ha.1 q.1.symm)]; exact y3 j
  have l3 : gi M y 3 = nI (brs L).length := ly.2.2.1
  generalize hM6 : si (si (si M3 z 1 (gi M y 1)) z 2 (gi M y 2)) z 3 (nI (brs L).length) = M6
  have g6 : ∀ a j, gr M6 a j = gr M a j := fun a j => by rw [← hM6, gr_si, gr_si, gr_si]; exact g3 a j
  have n6 : gi M6 z 3 = nI (brs L).length := by rw [← hM6, gi_si, if_pos ⟨rfl, rfl⟩]
  have c6 : ∀ c, c ≠ z → M6.1 c = M3.1 c := fun c hc => by rw [← hM6, si_ne hc, si_ne hc, si_ne hc]
  have r6 : M6.2 = M3.2 := by rw [← hM6]; rfl
  obtain ⟨M9, p9, r9, c9, w9⟩ := cp_ok (G := G) (M := M6) (a0 := v 3) (a := u 3) (n := (brs L).length) (by omega) (by omega) (by omega)
  have g9 : ∀ a j, gr M9 a j = gr M a j := fun a j => by show M9.2.2 a j = _; rw [r9]; exact g6 a j
  have n9 : gi M9 z 3 = nI (brs L).length := by show M9.1 z 3 = _; rw [c9 _ (nz 3 (by omega))]; exact n6
  obtain ⟨M12, p12, r12, c12, w12⟩ := cp_ok (G := G) (M := M9) (a0 := v 4) (a := u 4) (n := (brs L).length) (by omega) (by omega) (by omega)
  have g12 : ∀ a j, gr M12 a j = gr M a j := fun a j => by show M12.2.2 a j = _; rw [r12]; exact g9 a j
  have n12 : gi M12 z 3 = nI (brs L).length := by show M12.1 z 3 = _; rw [c12 _ (nz 4 (by omega))]; exact n9
  obtain ⟨M15, p15, r15, c15, w15⟩ := cp_ok (G := G) (M := M12) (a0 := v 5) (a := u 5) (n := (brs L).length) (by omega) (by omega) (by omega)
  have g15 : ∀ a j, gr M15 a j = gr M a j := fun a j => by show M15.2.2 a j = _; rw [r15]; exact g12 a j
  have n15 : gi M15 z 3 = nI (brs L).length := by show M15.1 z 3 = _; rw [c15 _ (nz 5 (by omega))]; exact n12
  obtain ⟨M18, p18, r18, c18, w18⟩ := cp_ok (G := G) (M := M15) (a0 := v 6) (a := u 6) (n := (brs L).length) (by omega) (by omega) (by omega)
  have hR : M18.2 = M.2 := by rw [r18, r15, r12, r9, r6, r3, r2]; rfl
  have k3 : ∀ c, c ≠ u 2 → c ≠ u 1 → c ≠ u 0 → M3.1 c = M.1 c := fun c a1 a2 a3 => by rw [c3 _ a1, c2 _ a2, si_ne a3]
  have k18 : ∀ c, c ≠ u 6 → c ≠ u 5 → c ≠ u 4 → c ≠ u 3 → c ≠ z → M18.1 c = M3.1 c := fun c a1 a2 a3 a4 a5 => by rw [c18 _ a1, c15 _ a2, c12 _ a3, c9 _ a4, c6 _ a5]
  refine ⟨M18, ?_, ⟨hR, fun c hc => ?_⟩, ⟨tz.1.ref (by rw [hR]), ?_, ty.2.2⟩, ?_⟩
  · unfold f_TR_becomeLike
    rw [zr0, yr0, hcopy, Option.bind_some]
    simp only [st]
    rw [(ym (gi M3 y 1) 0 1 2).2, y3 1, (ym (gi M y 1) (gi M y 2) 1 2).1, l3, hM6]
    simp only [g6, yr3, zr3, n6, p9, Option.bind_some, g9, yr4, zr4, n9, p12, g12, yr5, zr5, n12, p15, g15, yr6, zr6, n15, p18]
  · simp only [tcs, List.mem_cons, List.not_mem_nil, or_false, not_or] at hc
    obtain ⟨a0, a1, a2, a3, a4, a5, a6, a7⟩ := hc
    rw [k18 _ a7 a6 a5 a4 a0, k3 _ a3 a2 a1]
  · have m0 : M18.1 (u 0) = M3.1 (u 0) := k18 _ (nu 0 6 (by omega) (by omega) (by omega)) (nu 0 5 (by omega) (by omega) (by omega)) (nu 0 4 (by omega) (by omega) (by omega)) (nu 0 3 (by omega) (by omega) (by omega)) (fun q => nz 0 (by omega) q.symm)
    have m1 : M18.1 (u 1) = M2.1 (u 1) := (k18 _ (nu 1 6 (by omega) (by omega) (by omega)) (nu 1 5 (by omega) (by omega) (by omega)) (nu 1 4 (by omega) (by omega) (by omega)) (nu 1 3 (by omega) (by omega) (by omega)) (fun q => nz 1 (by omega) q.symm)).trans (c3 _ (nu 1 2 (by omega) (by omega) (by omega)))
    have m2 : M18.1 (u 2) = M3.1 (u 2) := k18 _ (nu 2 6 (by omega) (by omega) (by omega)) (nu 2 5 (by omega) (by omega) (by omega)) (nu 2 4 (by omega) (by omega) (by omega)) (nu 2 3 (by omega) (by omega) (by omega)) (fun q => nz 2 (by omega) q.symm)
    have gr18 : ∀ a j, gr M18 a j = gr M a j := fun a j => by show M18.2.2 a j = _; rw [hR]; rfl
    refine ⟨hL, by rw [gr18, zr1]; exact zg1, by rw [gr18, zr2]; exact zg2, ?_, ?_⟩
    · show M18.1 (u 0) 2 = _
      rw [m0, c3 _ (nu 0 2 (by omega) (by omega) (by omega))]
      exact e2
    · have hrow := rows_iff.mp ty.2.1.2.2.2.2
      rw [yr1, yr2] at hrow
      rw [gr18, gr18, zr1, zr2, rows_iff]
      intro i e he
      have hi := (List.getElem?_eq_some_iff.mp he).1
      have := hrow i e he
      rw [Nat.zero_add] at this ⊢
      refine ⟨?_, ?_⟩
      · show M18.1 (u 1) i = _
        rw [m1, w2 i hi, si_ne (fun q => ha.2.2.2 0 1 (by omega) (by omega) q.symm)]
        exact this.1
      · show M18.1 (u 2) i = _
        rw [m2, w3 i hi, c2 _ (fun q => ha.2.2.2 1 2 (by omega) (by omega) q.symm), si_ne (fun q => ha.2.2.2 0 2 (by omega) (by omega) q.symm)]
        exact this.2
  · have mz : M18.1 z = M6.1 z := by rw [c18 _ (nz 6 (by omega)), c15 _ (nz 5 (by omega)), c12 _ (nz 4 (by omega)), c9 _ (nz 3 (by omega))]
    have off : ∀ i, i < 13 → ∀ N : Mm, (∀ c, c ≠ u 2 → c ≠ u 1 → c ≠ u 0 → N.1 c = M.1 c) → N.1 (v i) = M.1 (v i) := fun i hi N hN => hN _ (fun q => ha.2.2.2 2 i (by omega) hi q.symm) (fun q => ha.2.2.2 1 i (by omega) hi q.symm) (fun q => ha.2.2.2 0 i (by omega) hi q.symm)
    have vz : ∀ i, i < 13 → v i ≠ z := fun i hi q => ha.2.1 i hi q.symm
    have vu : ∀ i j, i < 13 → j < 13 → v i ≠ u j := fun i j hi hj q => ha.2.2.2 j i hj hi q.symm
    have s6 : ∀ i, i < 13 → M6.1 (v i) = M.1 (v i) := fun i hi => (c6 _ (vz i hi)).trans (off i hi M3 k3)
    have s9 : ∀ i, i < 13 → M9.1 (v i) = M.1 (v i) := fun i hi => (c9 _ (vu i 3 hi (by omega))).trans (s6 i hi)
    have s12 : ∀ i, i < 13 → M12.1 (v i) = M.1 (v i) := fun i hi => (c12 _ (vu i 4 hi (by omega))).trans (s9 i hi)
    have s15 : ∀ i, i < 13 → M15.1 (v i) = M.1 (v i) := fun i hi => (c15 _ (vu i 5 hi (by omega))).trans (s12 i hi)
    obtain ⟨l1, l2, -, l4⟩ := ly
    refine ⟨?_, ?_, ?_, fun i r hr => ?_⟩
    · show M18.1 z 1 = _
      rw [mz, ← hM6]
      show gi (si (si (si M3 z 1 (gi M y 1)) z 2 (gi M y 2)) z 3 (nI (brs L).length)) z 1 = _
      rw [gi_si, if_neg (by simp), gi_si, if_neg (by simp), gi_si, if_pos ⟨rfl, rfl⟩]
      exact l1
    · show M18.1 z 2 = _
      rw [mz, ← hM6]
      show gi (si (si (si M3 z 1 (gi M y 1)) z 2 (gi M y 2)) z 3 (nI (brs L).length)) z 2 = _
      rw [gi_si, if_neg (by simp), gi_si, if_pos ⟨rfl, rfl⟩]
      exact l2
    · show M18.1 z 3 = _
      rw [mz]
      exact n6
    · have hi := (List.getElem?_eq_some_iff.mp hr).1
      obtain ⟨q1, q2, q3, q4⟩ := l4 i r hr
      refine ⟨?_, ?_, ?_, ?_⟩
      · show M18.1 (u 4) i = _
        rw [c18 _ (nu 4 6 (by omega) (by omega) (by omega)), c15 _ (nu 4 5 (by omega) (by omega) (by omega)), w12 i hi, s9 4 (by omega)]
        exact q1
      · show M18.1 (u 5) i = _
        rw [c18 _ (nu 5 6 (by omega) (by omega) (by omega)), w15 i hi, s12 5 (by omega)]
        exact q2
      · show M18.1 (u 6) i = _
        rw [w18 i hi, s15 6 (by omega)]
        exact q3
      · show M18.1 (u 3) i = _
        rw [c18 _ (nu 3 6 (by omega) (by omega) (by omega)), c15 _ (nu 3 5 (by omega) (by omega) (by omega)), c12 _ (nu 3 4 (by omega) (by omega) (by omega)), w9 i hi, s6 3 (by omega)]
        exact q4
end CB
