/-! The first call on a fresh object. -/
theorem FUs : FU = 4095 + 1 := rfl
theorem gi_si {M : Mm} {a k b j : Nat} {y : Int32} : gi (si M a k y) b j = if b = a ∧ j = k then y else gi M b j := rfl
theorem gi_sl {M : Mm} {a k b j : Nat} {y : Int64} : gi (sl M a k y) b j = gi M b j := rfl
theorem gi_sr {M : Mm} {a k b j y : Nat} : gi (sr M a k y) b j = gi M b j := rfl
theorem gr_si {M : Mm} {a k b j : Nat} {y : Int32} : gr (si M a k y) b j = gr M b j := rfl
theorem gr_sl {M : Mm} {a k b j : Nat} {y : Int64} : gr (sl M a k y) b j = gr M b j := rfl
theorem gr_sr {M : Mm} {a k b j y : Nat} : gr (sr M a k y) b j = if b = a ∧ j = k then y else gr M b j := rfl
theorem gl_si {M : Mm} {a k b j : Nat} {y : Int32} : gl (si M a k y) b j = gl M b j := rfl
theorem gl_sl {M : Mm} {a k b j : Nat} {y : Int64} : gl (sl M a k y) b j = if b = a ∧ j = k then y else gl M b j := rfl
theorem gl_sr {M : Mm} {a k b j y : Nat} : gl (sr M a k y) b j = gl M b j := rfl
theorem cp0 {G : Nat → Nat} {M : Mm} {a0 a : Nat} : cpI G M a0 0 a 0 0 = some M := by
  unfold cpI
  rw [if_neg]
  · congr 1
    have e : (fun b j => if b = a then va_cpy (M.1 a0) (M.1 a) (0 : Int32).toNatClampNeg (0 : Int32).toNatClampNeg (0 : Int32).toNatClampNeg j else M.1 b j) = M.1 := by
      funext b j
      by_cases h : b = a
      · subst h
        rw [if_pos rfl]
        unfold va_cpy
        rw [if_neg]
        intro q
        have h0 : (0 : Int32).toNatClampNeg = 0 := by decide
        rw [h0] at q
        omega
      · rw [if_neg h]
    rw [e]
  · have h0 : (0 : Int32).toNatClampNeg = 0 := by decide
    have h1 : ¬ (0 : Int32) < 0 := by decide
    rw [h0]
    intro q
    rcases q with q | q | q | q | q
    · exact h1 q
    · exact h1 q
    · exact h1 q
    · omega
    · omega
theorem e_row {G : Nat → Nat} {M : Mm} {P : Nat} {a : Int32} (h : gi M P 2 = 0) : f_PM_rowOf G P a M = some (-1) := by
  unfold f_PM_rowOf
  rw [FUs, f_PM_rowOf_2, h, if_pos (by decide)]
theorem e_val {G : Nat → Nat} {M : Mm} {P : Nat} {a : Int32} (h : gi M P 2 = 0) : f_PM_valueOf G P a M = some 0 := by
  unfold f_PM_valueOf
  rw [e_row h, Option.bind_some, if_pos rfl]
/-- the model's state as a first call meets it -/
def MF (G : Nat → Nat) (M : Mm) (mo : Nat) (um : Nat → Nat) (k : Nat) : Prop := ModelR G M mo um ∧ gi M (um 2) 0 = 0 ∧ gi M mo 3 = 0 ∧ gi M mo 4 = nI k ∧ gi M mo 11 = 0
section MFS
variable {G : Nat → Nat} {M : Mm} {mo k : Nat} {um : Nat → Nat}
theorem ix04 : ix 0 4 = some 0 := by decide
theorem ix064 : ix 0 64 = some 0 := by decide
theorem MF.find (h : MF G M mo um k) {a : Int32} : f_MO_find G mo 0 a M = some (-1) := by
  obtain ⟨⟨r0, r1, r2, r3, r4, r5, r6, r7, g0, g1, g2, -⟩, h1, -⟩ := h
  unfold f_MO_find
  rw [FUs, f_MO_find_2, r2, g2, ix04, Option.bind_some, h1, if_pos (by decide)]
theorem MF.get (h : MF G M mo um k) {a : Int32} : f_MO_get G mo a M = some 0 := by
  unfold f_MO_get f_MO_valueIn
  rw [h.find, Option.bind_some, if_neg (by decide)]
  rfl
theorem MF.put (h : MF G M mo um k) {a c : Int32} : ∃ M2, f_MO_put G mo a c M = some (0, M2) := by
  have hf := h.find (a := a)
  obtain ⟨⟨r0, r1, r2, r3, r4, r5, r6, r7, g0, g1, g2, g3, g4, g5, g6, g7, n02, n12, -⟩, h1, -⟩ := h
  unfold f_MO_put
  by_cases hn : 0 ≤ f_MO_nibbles a
  · rw [if_pos hn, hf, Option.bind_some, if_neg (by decide), if_pos (by decide), if_pos (by decide)]
    by_cases hc : c = 0
    · rw [if_pos hc]; exact ⟨_, rfl⟩
    · rw [if_neg hc]
      simp only [r2, g2, ix04, Option.bind_some, h1]
      rw [if_neg (by decide)]
      simp only [r0, r1, r2, g0, g1, g2, ix04, ix064, Option.bind_some, st, gr_si, gi_si, h1, n02, n12, Ne.symm n02, Ne.symm n12, false_and, if_false]
      exact ⟨_, rfl⟩
  · rw [if_neg hn]; exact ⟨_, rfl⟩
theorem MF.b18 (h : MF G M mo um k) {k9 : Nat → Int32 → Int32 → Mm → Option Mm} {n : Nat} {v : Int32} : f_MO_build_18 G k9 (n + 1) mo 0 v (16 * 0) M = k9 mo 0 (v + (-1)) M := by
  obtain ⟨⟨r0, r1, r2, r3, r4, r5, r6, r7, g0, g1, g2, -⟩, h1, -⟩ := h
  rw [f_MO_build_18, r2, g2, ix04, Option.bind_some, h1, if_pos (by decide)]
theorem MF.build (h : MF G M mo um k) : f_MO_build G mo 0 M = some (si M (um 5) 0 0) ∧ MF G (si M (um 5) 0 0) mo um k ∧ gi (si M (um 5) 0 0) (um 5) 0 = 0 := by
  obtain ⟨hR, h1, h2, h3, h4⟩ := h
  have hR' := hR
  obtain ⟨r0, r1, r2, r3, r4, r5, r6, r7, g0, g1, g2, g3, g4, g5, g6, g7, n02, n12, n52, -, -, -, -, -, -, -, -, -, -, -, m5, -⟩ := hR'
  have hM : MF G (si M (um 5) 0 0) mo um k := ⟨hR, by rw [gi_si, if_neg (fun q => n52 q.1.symm)]; exact h1, by rw [gi_si, if_neg (fun q => m5 q.1)]; exact h2, by rw [gi_si, if_neg (fun q => m5 q.1)]; exact h3, by rw [gi_si, if_neg (fun q => m5 q.1)]; exact h4⟩
  refine ⟨?_, hM, by rw [gi_si, if_pos ⟨rfl, rfl⟩]⟩
  have st9 : ∀ (n : Nat) (v : Int32), ¬ v < 0 → f_MO_build_9 G (n + 1) mo 0 v (si M (um 5) 0 0) = f_MO_build_9 G n mo 0 (v + (-1)) (si M (um 5) 0 0) := fun n v hv => by
    rw [f_MO_build_9, if_neg hv, FUs, hM.b18]
  unfold f_MO_build
  rw [r5, g5, ix04, Option.bind_some]
  show f_MO_build_9 G (4091 + 1 + 1 + 1 + 1 + 1) mo 0 3 (si M (um 5) 0 0) = _
  rw [st9 _ _ (by decide), st9 _ _ (by decide), st9 _ _ (by decide), st9 _ _ (by decide), f_MO_build_9, if_pos (by decide)]
theorem MF.members (h : MF G M mo um k) {q : Int32} : f_MO_members G mo 0 q M = some 0 := by
  obtain ⟨⟨r0, r1, r2, r3, r4, r5, r6, r7, g0, g1, g2, -⟩, h1, -⟩ := h
  unfold f_MO_members
  rw [FUs, f_MO_members_8, r2, g2, ix04, Option.bind_some, h1, if_pos (by decide)]
theorem MF.root (h : MF G M mo um k) : ∃ M2, f_MO_root G mo M = some ((0 : Int32).toInt64, M2) := by
  obtain ⟨e, hM, -⟩ := h.build
  unfold f_MO_root
  rw [e, Option.bind_some]
  generalize si M (um 5) 0 0 = N at hM
  unfold f_MO_rootOf
  simp only [st]
  have hN : MF G (si N mo 9 0) mo um k := by
    obtain ⟨hR, h1, h2, h3, h4⟩ := hM
    have hR' := hR
    obtain ⟨-, -, -, -, -, -, -, -, -, -, -, -, -, -, -, -, -, -, -, -, -, -, -, -, -, -, -, -, m2, -⟩ := hR'
    exact ⟨hR, by rw [gi_si, if_neg (fun q => m2 q.1.symm)]; exact h1, by rw [gi_si, if_neg (fun q => absurd q.2 (by decide))]; exact h2, by rw [gi_si, if_neg (fun q => absurd q.2 (by decide))]; exact h3, by rw [gi_si, if_neg (fun q => absurd q.2 (by decide))]; exact h4⟩
  have hr : f_MO_reference G mo 0 1 0 (si N mo 9 0) = some (si N mo 9 0) := by
    unfold f_MO_reference
    rw [hN.members, Option.bind_some, if_pos rfl, if_pos rfl]
  rw [hr, Option.bind_some]
  have hd : f_MO_digestOfWords G mo (si N mo 9 0) = some (0 : Int32).toInt64 := by
    have h9 : gi (si N mo 9 0) mo 9 = 0 := by rw [gi_si, if_pos ⟨rfl, rfl⟩]
    unfold f_MO_digestOfWords
    simp only [st]
    rw [FUs, f_MO_digestOfWords_8, h9, if_pos (by decide)]
  rw [hd]
  exact ⟨_, rfl⟩
theorem MF.count (h : MF G M mo um k) {a : Int32} : ∃ M2, f_MO_count G mo a M = some (if a = 0 then 0 else if a = 1 then 0 else if a = 2 then 0 else -1, M2) := by
  obtain ⟨e, hM, h5⟩ := h.build
  unfold f_MO_count
  rw [e, Option.bind_some]
  generalize si M (um 5) 0 0 = N at hM h5
  obtain ⟨⟨r0, r1, r2, r3, r4, r5, r6, r7, g0, g1, g2, g3, g4, g5, -⟩, h1, -⟩ := hM
  rw [r2, g2, ix04, Option.bind_some, h1, if_pos (by decide), FUs, f_MO_count_36, r5, g5, ix04, Option.bind_some, h5, if_pos (by decide)]
  refine ⟨N, ?_⟩
  by_cases a0 : a = 0
  · rw [if_pos a0, if_pos a0, r2, g2, ix04, Option.bind_some, h1]; rfl
  rw [if_neg a0, if_neg a0]
  by_cases a1 : a = 1
  · rw [if_pos a1, if_pos a1]
  rw [if_neg a1, if_neg a1]
  by_cases a2 : a = 2
  · rw [if_pos a2, if_pos a2, Option.bind_some, h5]
  rw [if_neg a2, if_neg a2]
theorem copy26 (hR : ModelR G M mo um) {p q : Nat} (hp : p < 4) (hq : q < 4) : ∀ (n i : Nat) (M : Mm), (gr M mo 0 = um 0 ∧ gr M mo 1 = um 1 ∧ gr M mo 5 = um 3 ∧ gr M mo 6 = um 4) → i + n = 16 → ∀ f, ∃ M2, f_MO_copy_26 G (n + f + 1) mo (nI p) (nI q) (nI i) M = some M2 := by
  obtain ⟨-, -, -, -, -, -, -, -, g0, g1, g2, g3, g4, -⟩ := hR
  intro n
  induction n with
  | zero =>
    intro i M _ hi f
    have : i = 16 := by omega
    subst this
    exact ⟨M, by rw [f_MO_copy_26, if_pos (by decide)]⟩
  | succ n ih =>
    intro i M hr hi f
    have e1 : (16 : Int32) * nI p + nI i = nI (16 * p + i) := by rw [show (16 : Int32) = nI 16 from rfl, pk_mul, nI_add]
    have e2 : (16 : Int32) * nI q + nI i = nI (16 * q + i) := by rw [show (16 : Int32) = nI 16 from rfl, pk_mul, nI_add]
    have i1 : ix (nI (16 * p + i)) 64 = some (16 * p + i) := ix_nI (by omega) (by decide)
    have i2 : ix (nI (16 * q + i)) 64 = some (16 * q + i) := ix_nI (by omega) (by decide)
    obtain ⟨r0, r1, r5, r6⟩ := hr
    have hg : ¬ (16 : Int32) ≤ nI i := nI_ge (a := i) (b := 16) (by omega) (by decide)
    rw [show n + 1 + f + 1 = (n + f + 1) + 1 by omega, f_MO_copy_26, if_neg hg]
    simp only [e1, e2, st, gr_si, gr_sl, r0, r1, r5, r6, g0, g1, g3, g4, i1, i2, Option.bind_some]
    rw [show nI i + 1 = nI (i + 1) from nI_add i 1]
    refine ih (i + 1) _ ?_ (by omega) f
    exact ⟨r0, r1, r5, r6⟩
theorem copy_ok (hR : ModelR G M mo um) {p q : Nat} (hp : p < 4) (hq : q < 4) : ∃ M2, f_MO_copy G mo (nI p) (nI q) M = some M2 := by
  have hR' := hR
  obtain ⟨r0, r1, r2, r3, r4, r5, r6, r7, g0, g1, g2, g3, g4, g5, -⟩ := hR'
  unfold f_MO_copy
  have i1 : ix (nI p) 4 = some p := ix_nI hp (by decide)
  have i2 : ix (nI q) 4 = some q := ix_nI hq (by decide)
  simp only [r2, g2, i1, i2, Option.bind_some, st, gr_si, r5, g5]
  rw [show FU = 16 + 4079 + 1 from rfl, show (0 : Int32) = nI 0 from rfl]
  refine copy26 hR hp hq 16 0 _ ?_ (by omega) 4079
  exact ⟨r0, r1, r3, r4⟩
theorem MF.commit (h : MF G M mo um k) (hk : 1 ≤ k) (hk3 : k ≤ 3) {a : Int32} : ∃ M2, f_MO_commit G mo a M = some (if (0 : Int32) + 1 ≤ a then 0 else -1, M2) := by
  obtain ⟨e, hM, h5⟩ := h.build
  unfold f_MO_commit
  rw [e, Option.bind_some]
  generalize si M (um 5) 0 0 = N at hM h5
  obtain ⟨hR, h1, h2, h3, h4⟩ := hM
  have hR' := hR
  obtain ⟨r0, r1, r2, r3, r4, r5, r6, r7, g0, g1, g2, g3, g4, g5, -⟩ := hR'
  rw [FUs, f_MO_commit_9, r5, g5, ix04, Option.bind_some, h5, if_pos (by decide)]
  by_cases ha : (0 : Int32) + 1 ≤ a
  · rw [if_pos ha, if_pos ha, h3, h2, if_neg (by rw [show (0 : Int32) = nI 0 from rfl]; exact nI_ge (by omega) (by omega))]
    simp only [st]
    have h3' : gi (si N mo 3 (0 + 1)) mo 3 = 1 := by rw [gi_si, if_pos ⟨rfl, rfl⟩]; rfl
    rw [h3']
    obtain ⟨M2, e2⟩ := copy_ok (M := si N mo 3 (0 + 1)) (p := 0) (q := 1) hR (by decide) (by decide)
    have e2' : f_MO_copy G mo (1 - 1) 1 (si N mo 3 (0 + 1)) = some M2 := e2
    rw [show FU = 4094 + 1 + 1 from rfl, f_MO_commit_87, if_neg (by decide), e2', Option.bind_some, f_MO_commit_87, if_pos (by decide)]
    exact ⟨_, rfl⟩
  · rw [if_neg ha, if_neg ha]
    unfold f_MO_back
    rw [h2, if_pos rfl, r2, g2, ix04, Option.bind_some]
    exact ⟨_, rfl⟩
theorem MF.crash (h : MF G M mo um k) : ∃ M2, f_MO_crash G mo M = some (0, M2) := by
  obtain ⟨⟨r0, r1, r2, r3, r4, r5, r6, r7, g0, g1, g2, g3, g4, g5, -⟩, h1, h2, -⟩ := h
  unfold f_MO_crash f_MO_back
  rw [h2, if_pos rfl, r2, g2, ix04, Option.bind_some]
  simp only [st]
  rw [Option.bind_some, gr_si, r2, g2, ix04, Option.bind_some, gi_si, if_pos ⟨rfl, rfl⟩]
  exact ⟨_, rfl⟩
theorem MF.isv (h : MF G M mo um k) {a : Int32} : f_MO_isVersion G mo a M = 0 := by
  unfold f_MO_isVersion
  rw [h.2.2.1]
  by_cases ha : a < 0
  · rw [if_pos ha]
  · rw [if_neg ha, if_pos (Int32.not_lt.mp ha)]
theorem MF.stands (h : MF G M mo um k) {i : Nat} (h1 : 16 ≤ i) (h2 : i ≤ 64) : f_MO_stands G mo (nI i) M = some 0 := by
  unfold f_MO_stands
  rw [h.2.2.1, if_pos]
  rw [show (16 : Int32) = nI 16 from rfl, pk_div (by omega) (by decide) (by decide), show (0 : Int32) = nI 0 from rfl]
  exact nI_lt (by omega) (by omega)
theorem MF.stored (h : MF G M mo um k) : f_MO_stored G mo M = some 0 := by
  have go : ∀ (n i f : Nat), i + n = 64 → 16 ≤ i → f_MO_stored_5 G (n + f + 1) mo 0 (nI i) M = some 0 := by
    intro n
    induction n with
    | zero =>
      intro i f hi _
      have : i = 64 := by omega
      subst this
      rw [f_MO_stored_5, if_pos (by decide)]
    | succ n ih =>
      intro i f hi h1
      have hg : ¬ (64 : Int32) ≤ nI i := nI_ge (a := i) (b := 64) (by omega) (by decide)
      rw [show n + 1 + f + 1 = (n + f + 1) + 1 by omega, f_MO_stored_5, if_neg hg, h.stands h1 (by omega), Option.bind_some, if_pos rfl, show nI i + 1 = nI (i + 1) from nI_add i 1]
      exact ih (i + 1) f (by omega) (by omega)
  have g := go 48 16 4047 (by omega) (by omega)
  rw [show nI 16 = (16 : Int32) from rfl] at g
  unfold f_MO_stored
  rw [show FU = 48 + 4047 + 1 from rfl]
  exact g
theorem MF.uses (h : MF G M mo um k) {d : Int64} : f_MO_uses G mo d M = some 0 := by
  have go : ∀ (n i f : Nat), i + n = 64 → 16 ≤ i → f_MO_uses_6 G (n + f + 1) mo d 0 (nI i) M = some 0 := by
    intro n
    induction n with
    | zero =>
      intro i f hi _
      have : i = 64 := by omega
      subst this
      rw [f_MO_uses_6, if_pos (by decide)]
    | succ n ih =>
      intro i f hi h1
      have hg : ¬ (64 : Int32) ≤ nI i := nI_ge (a := i) (b := 64) (by omega) (by decide)
      rw [show n + 1 + f + 1 = (n + f + 1) + 1 by omega, f_MO_uses_6, if_neg hg, h.stands h1 (by omega), Option.bind_some, if_pos rfl, show nI i + 1 = nI (i + 1) from nI_add i 1]
      exact ih (i + 1) f (by omega) (by omega)
  have g := go 48 16 4047 (by omega) (by omega)
  rw [show nI 16 = (16 : Int32) from rfl] at g
  unfold f_MO_uses
  rw [show FU = 48 + 4047 + 1 from rfl]
  exact g
theorem MF.verify (h : MF G M mo um k) {w : Int64} {a c : Int32} : ∃ M2, f_MO_verify G mo w a c M = some (0, M2) := by
  unfold f_MO_verify
  by_cases ha : f_MO_nibbles a < 0
  · rw [if_pos ha]; exact ⟨_, rfl⟩
  · rw [if_neg ha, if_pos h.2.2.2.2]; exact ⟨_, rfl⟩
end MFS
/-- the class's state as a first call meets it -/
def CF (G : Nat → Nat) (M : Mm) (x k : Nat) (b t : Nat → Nat) (uu : Nat → Nat → Nat) : Prop := gr M x 0 = t 0 ∧ gr M x 1 = b 0 ∧ gr M x 3 = b 1 ∧ gi M x 2 = 0 ∧ G (b 0) = k ∧ gi M (b 1) 1 = 0 ∧ (∀ j, j < k → gr M (b 0) j = t (j + 1)) ∧ (∀ j, j < k + 1 → gr M (t j) 0 = uu j 0 ∧ gi M (t j) 1 = 0 ∧ gi M (t j) 2 = 0 ∧ gi M (t j) 3 = 0 ∧ gi M (uu j 0) 2 = 0) ∧ gr M (uu 0 0) 0 = uu 0 1 ∧ gr M (uu 0 0) 1 = uu 0 2 ∧ G (uu 0 1) = 16 ∧ G (uu 0 2) = 16 ∧ uu 0 1 ≠ uu 0 0 ∧ uu 0 2 ≠ uu 0 0 ∧ t 0 ≠ uu 0 0
section CFS
variable {G : Nat → Nat} {M : Mm} {x k : Nat} {b t : Nat → Nat} {uu : Nat → Nat → Nat}
theorem ix016 : ix 0 16 = some 0 := by decide
theorem CF.put (h : CF G M x k b t uu) {a c : Int32} : ∃ M2, f_NT_put G x a c M = some (0, M2) := by
  obtain ⟨x0, x1, x3, x2, gk, p1, kt, ht, p0, pv, g1, g2, n1, n2, n3⟩ := h
  obtain ⟨t0, t1, t2, t3, t4⟩ := ht 0 (by omega)
  unfold f_NT_put
  by_cases hn : f_PA_isNumber a.toInt64 = 0
  · rw [if_pos hn]; exact ⟨_, rfl⟩
  · rw [if_neg hn]
    unfold f_TR_change
    rw [x0, t0, e_row t4, Option.bind_some, if_pos rfl]
    by_cases hc : c = 0
    · rw [if_pos hc]; exact ⟨_, rfl⟩
    · rw [if_neg hc]
      have hi : f_PM_insert G (uu 0 0) a c M = some (si (si (si M (uu 0 1) 0 a) (uu 0 2) 0 c) (uu 0 0) 2 1) := by
        unfold f_PM_insert
        rw [t4, if_neg (by decide), FUs, f_PM_insert_15, if_pos (by decide)]
        simp only [p0, pv, g1, g2, ix016, Option.bind_some, st, gr_si, gi_si, t4, n1, n2, Ne.symm n1, Ne.symm n2, false_and, if_false]
        rfl
      rw [hi, Option.bind_some]
      generalize hN : si (si (si M (uu 0 1) 0 a) (uu 0 2) 0 c) (uu 0 0) 2 1 = N
      have hN0 : gr N (t 0) 0 = uu 0 0 := by rw [← hN]; exact t0
      have hN2 : gi N (uu 0 0) 2 = 1 := by rw [← hN, gi_si, if_pos ⟨rfl, rfl⟩]
      have hl : ∃ N2, f_TR_list G (t 0) N = some N2 := by
        unfold f_TR_list
        simp only [st, gr_si, hN0]
        have e : gi (si (si (si N (t 0) 1 0) (t 0) 2 0) (t 0) 3 0) (uu 0 0) 2 = 1 := by
          rw [gi_si, if_neg (fun q => n3 q.1.symm), gi_si, if_neg (fun q => n3 q.1.symm), gi_si, if_neg (fun q => n3 q.1.symm)]
          exact hN2
        rw [e, show RD = 7 + 1 from rfl, F_TR_listPart]
        unfold f_TR_listPart
        rw [if_neg (by decide), if_pos (by decide)]
        exact ⟨_, rfl⟩
      obtain ⟨N2, hl⟩ := hl
      rw [hl]
      exact ⟨_, rfl⟩
theorem CF.get (h : CF G M x k b t uu) {a : Int32} : f_NT_get G x a M = some 0 := by
  obtain ⟨x0, x1, x3, x2, gk, p1, kt, ht, -⟩ := h
  obtain ⟨t0, t1, t2, t3, t4⟩ := ht 0 (by omega)
  unfold f_NT_get
  rw [x0, t0, e_val t4]
  rfl
theorem CF.root (h : CF G M x k b t uu) : f_NT_root G x M = some ((0 : Int32).toInt64, M) := by
  obtain ⟨x0, x1, x3, x2, gk, p1, kt, ht, -⟩ := h
  obtain ⟨t0, t1, t2, t3, t4⟩ := ht 0 (by omega)
  unfold f_NT_root f_TR_rootNumber
  rw [x0, t0, t4, show RD = 7 + 1 from rfl, F_TR_writeReference]
  unfold f_TR_writeReference
  rw [if_pos rfl, Option.bind_some]
  dsimp only
  unfold f_NT_digest
  rw [FUs, f_NT_digest_6, if_pos (by decide)]
  rfl
theorem like_ok {z y pz py : Nat} (hz : gr M z 0 = pz) (hy : gr M y 0 = py) (h0 : gi M py 2 = 0) (h3 : gi M y 3 = 0) : f_TR_becomeLike G z y M = some (si (si (si (si M pz 2 0) z 1 (gi (si M pz 2 0) y 1)) z 2 (gi (si (si M pz 2 0) z 1 (gi (si M pz 2 0) y 1)) y 2)) z 3 0) := by
  unfold f_TR_becomeLike f_PM_copy
  rw [hz, hy, h0]
  simp only [st]
  have e1 : gi (si M pz 2 0) pz 2 = 0 := by rw [gi_si, if_pos ⟨rfl, rfl⟩]
  rw [e1, cp0, Option.bind_some, e1, cp0, Option.bind_some, Option.bind_some]
  generalize hN : si (si (si M pz 2 0) z 1 (gi (si M pz 2 0) y 1)) z 2 (gi (si (si M pz 2 0) z 1 (gi (si M pz 2 0) y 1)) y 2) = N
  have e2 : gi N y 3 = 0 := by
    rw [← hN, gi_si, if_neg (fun q => absurd q.2 (by decide)), gi_si, if_neg (fun q => absurd q.2 (by decide)), gi_si, if_neg (fun q => absurd q.2 (by decide))]
    exact h3
  rw [e2]
  have e3 : gi (si N z 3 0) z 3 = 0 := by rw [gi_si, if_pos ⟨rfl, rfl⟩]
  rw [e3, cp0, Option.bind_some, e3, cp0, Option.bind_some, e3, cp0, Option.bind_some, e3, cp0, Option.bind_some]
theorem ix0k {k : Nat} (h : 1 ≤ k) (h3 : k ≤ 3) : ix (0 : Int32) k = some 0 := by
  have e := ix_nI (c := 0) (n := k) (by omega) (by omega)
  rw [nI_0] at e
  exact e
theorem CF.crash (h : CF G M x k b t uu) (hk : 1 ≤ k) (hk3 : k ≤ 3) : ∃ M2, f_NT_crash G x M = some (0, M2) := by
  obtain ⟨x0, x1, x3, x2, gk, p1, kt, ht, p0, pv, g1, g2, n1, n2, n3⟩ := h
  obtain ⟨t0, t1, t2, t3, t4⟩ := ht 0 (by omega)
  obtain ⟨s0, s1, s2, s3, s4⟩ := ht 1 (by omega)
  unfold f_NT_crash f_NT_goDown
  rw [x1, gk]
  have i0' : ix (0 : Int32) k = some 0 := ix0k hk hk3
  rw [i0', Option.bind_some, x0, kt 0 (by omega), like_ok (pz := uu 0 0) (py := uu 1 0) t0 s0 s4 s3, Option.bind_some, Option.bind_some]
  simp only [gr_si, x0, t0]
  rw [gi_si, if_neg (fun q => absurd q.2 (by decide)), gi_si, if_neg (fun q => n3 q.1.symm), gi_si, if_neg (fun q => absurd q.2 (by decide)), gi_si, if_pos ⟨rfl, rfl⟩]
  exact ⟨_, rfl⟩
theorem CF.down (h : CF G M x k b t uu) (hk : 1 ≤ k) (hk3 : k ≤ 3) : ∃ M2, f_NT_goDown G x M = some M2 := by
  obtain ⟨x0, x1, x3, x2, gk, p1, kt, ht, -⟩ := h
  obtain ⟨t0, t1, t2, t3, t4⟩ := ht 0 (by omega)
  obtain ⟨s0, s1, s2, s3, s4⟩ := ht 1 (by omega)
  unfold f_NT_goDown
  have i0' : ix (0 : Int32) k = some 0 := ix0k hk hk3
  rw [x1, gk, i0', Option.bind_some, x0, kt 0 (by omega), like_ok (pz := uu 0 0) (py := uu 1 0) t0 s0 s4 s3]
  exact ⟨_, rfl⟩
theorem kw0 {z pz f : Nat} (gk : G (b 0) = k) (hk : 1 ≤ k) (hk3 : k ≤ 3) (a1 : gr M x 1 = b 0) (a2 : gr M x 0 = t 0) (a3 : gr M (t 0) 0 = uu 0 0) (a4 : gr M z 0 = pz) (a5 : x ≠ b 0) (a6 : t 0 ≠ b 0) (a7 : z ≠ b 0) (a8 : gi M (uu 0 0) 2 = 0) (a9 : gi M (t 0) 3 = 0) : ∃ M2, f_NT_keepWorking_17 G (f + 1) x z 0 M = some M2 := by
  have h1 : gr (sr M (b 0) 0 z) x 0 = t 0 := by rw [gr_sr, if_neg (fun q => a5 q.1)]; exact a2
  have h2 : gr (sr M (b 0) 0 z) (t 0) 0 = uu 0 0 := by rw [gr_sr, if_neg (fun q => a6 q.1)]; exact a3
  have h3 : gr (sr M (b 0) 0 z) z 0 = pz := by rw [gr_sr, if_neg (fun q => a7 q.1)]; exact a4
  have h8 : gi (sr M (b 0) 0 z) (uu 0 0) 2 = 0 := a8
  have h9 : gi (sr M (b 0) 0 z) (t 0) 3 = 0 := a9
  have hl := like_ok (G := G) (z := z) (y := t 0) h3 h2 h8 h9
  have hc : (0 : Int32) ≤ 0 := Int32.le_refl 0
  rw [f_NT_keepWorking_17, if_pos hc, a1, gk, ix0k hk hk3, Option.bind_some]
  simp only [st]
  rw [h1, hl, Option.bind_some]
  exact ⟨_, rfl⟩
theorem kw1 {z i f : Nat} (gk : G (b 0) = k) (hk3 : k ≤ 3) (hi : i + 1 < k) (a1 : gr M x 1 = b 0) : f_NT_keepWorking_17 G (f + 1) x z (nI (i + 1)) M = f_NT_keepWorking_17 G f x z (nI i) (sr M (b 0) (i + 1) (gr M (b 0) i)) := by
  have hg : ¬ nI (i + 1) ≤ (0 : Int32) := nI_nle (by omega) (by omega)
  have i1 : ix (nI i) k = some i := ix_nI (by omega) (by omega)
  have i2 : ix (nI (i + 1)) k = some (i + 1) := ix_nI (by omega) (by omega)
  rw [f_NT_keepWorking_17, if_neg hg, nI_pred, a1, gk, i1, Option.bind_some, i2, Option.bind_some, pk_m1]
  rfl
theorem kw17 {z pz : Nat} (gk : G (b 0) = k) (hk3 : k ≤ 3) (a5 : x ≠ b 0) (a6 : t 0 ≠ b 0) (a7 : z ≠ b 0) : ∀ (i f : Nat) (M : Mm), i < k → gr M x 1 = b 0 → gr M x 0 = t 0 → gr M (t 0) 0 = uu 0 0 → gr M z 0 = pz → gi M (uu 0 0) 2 = 0 → gi M (t 0) 3 = 0 → ∃ M2, f_NT_keepWorking_17 G (i + f + 1) x z (nI i) M = some M2 := by
  intro i
  induction i with
  | zero =>
    intro f M hi a1 a2 a3 a4 a8 a9
    rw [nI_0]
    exact kw0 gk (by omega) hk3 a1 a2 a3 a4 a5 a6 a7 a8 a9
  | succ i ih =>
    intro f M hi a1 a2 a3 a4 a8 a9
    rw [show i + 1 + f + 1 = (i + f + 1) + 1 by omega, kw1 gk hk3 hi a1]
    have h1 : gr (sr M (b 0) (i + 1) (gr M (b 0) i)) x 1 = b 0 := by rw [gr_sr, if_neg (fun q => a5 q.1)]; exact a1
    have h2 : gr (sr M (b 0) (i + 1) (gr M (b 0) i)) x 0 = t 0 := by rw [gr_sr, if_neg (fun q => a5 q.1)]; exact a2
    have h3 : gr (sr M (b 0) (i + 1) (gr M (b 0) i)) (t 0) 0 = uu 0 0 := by rw [gr_sr, if_neg (fun q => a6 q.1)]; exact a3
    have h4 : gr (sr M (b 0) (i + 1) (gr M (b 0) i)) z 0 = pz := by rw [gr_sr, if_neg (fun q => a7 q.1)]; exact a4
    exact ih f _ (by omega) h1 h2 h3 h4 a8 a9
theorem CF.commit (h : CF G M x k b t uu) (hk : 1 ≤ k) (hk3 : k ≤ 3) (nx : x ≠ b 0) (nt : ∀ j, j < k + 1 → t j ≠ b 0) {a : Int32} : ∃ M2, f_NT_commit G x a M = some (if (0 : Int32) + 1 ≤ a then 0 else -1, M2) := by
  have hd := h.down hk hk3
  obtain ⟨x0, x1, x3, x2, gk, p1, kt, ht, -⟩ := h
  obtain ⟨t0, t1, t2, t3, t4⟩ := ht 0 (by omega)
  obtain ⟨z0, z1, z2, z3, z4⟩ := ht k (by omega)
  have hb : f_NT_branchesToWrite G x M = some 0 := by
    unfold f_NT_branchesToWrite
    rw [FUs, f_NT_branchesToWrite_4, x0, t3, if_pos (by decide)]
  unfold f_NT_commit
  rw [hb, Option.bind_some]
  by_cases ha : (0 : Int32) + 1 ≤ a
  · rw [if_pos ha, if_pos ha]
    have hw : ∃ M2, f_NT_keepWorking G x M = some M2 := by
      unfold f_NT_keepWorking
      simp only [st]
      have e1 : Int32.ofNat k - 1 = nI (k - 1) := pk_sub (a := k) (b := 1) hk
      rw [x1, gk, e1, ix_nI (show k - 1 < k by omega) (by omega), Option.bind_some, kt (k - 1) (by omega), show k - 1 + 1 = k by omega]
      have := kw17 (x := x) (t := t) (uu := uu) (b := b) (k := k) (G := G) (z := t k) gk hk3 nx (nt 0 (by omega)) (nt k (by omega)) (k - 1) (4095 - (k - 1)) M (by omega) x1 x0 t0 z0 t4 t3
      rw [show k - 1 + (4095 - (k - 1)) + 1 = FU by unfold FU; omega] at this
      exact this
    obtain ⟨M2, e⟩ := hw
    rw [e]
    exact ⟨_, rfl⟩
  · rw [if_neg ha, if_neg ha]
    obtain ⟨M2, e⟩ := hd
    rw [e]
    exact ⟨_, rfl⟩
theorem CF.isk (h : CF G M x k b t uu) {a : Int32} : f_NT_isKept G x a M = 0 := by
  unfold f_NT_isKept
  rw [h.2.2.2.1]
  by_cases ha : a < 0
  · rw [if_pos ha]
  · rw [if_neg ha, if_pos (Int32.not_lt.mp ha)]
theorem CF.has (h : CF G M x k b t uu) {a : Int32} : f_PF_has G (b 1) a M = 0 := by
  unfold f_PF_has
  rw [h.2.2.2.2.2.1]
  by_cases ha : a < 0
  · rw [if_pos ha]
  · rw [if_neg ha, if_pos (Int32.not_lt.mp ha)]
theorem CF.stored (h : CF G M x k b t uu) : f_NT_stored G x M = some 0 := by
  unfold f_NT_stored
  rw [FUs, f_NT_stored_4, h.2.2.2.1, if_pos (by decide)]
theorem CF.uses (h : CF G M x k b t uu) {d : Int64} : f_NT_uses G x d M = some (0, M) := by
  unfold f_NT_uses
  rw [FUs, f_NT_uses_5, h.2.2.2.1, if_pos (by decide)]
theorem CF.verify (h : CF G M x k b t uu) {w : Int64} {a c : Int32} : ∃ M2, f_NT_verify G x w a c M = some (0, M2) := by
  have hp := h.2.2.1
  have h1 := h.2.2.2.2.2.1
  unfold f_NT_verify
  by_cases hn : f_PA_isNumber a.toInt64 = 0
  · rw [if_pos hn]; exact ⟨_, rfl⟩
  · rw [if_neg hn, hp]
    unfold f_PF_shows
    simp only [st]
    have e1 : gi (si (si M (b 1) 2 0) (b 1) 4 a) (b 1) 1 = 0 := by
      rw [gi_si, if_neg (fun q => absurd q.2 (by decide)), gi_si, if_neg (fun q => absurd q.2 (by decide))]; exact h1
    generalize si (si M (b 1) 2 0) (b 1) 4 a = N at e1
    have e2 : f_PF_hasReference G (b 1) 0 N = some 0 := by
      unfold f_PF_hasReference f_PF_has
      rw [e1, if_pos]
      rw [if_neg (by decide), if_pos (by decide)]
    have e3 : f_PF_takeTopReference G (b 1) w N = some (si N (b 1) 2 2) := by
      unfold f_PF_takeTopReference
      rw [e2, Option.bind_some, if_pos rfl]
      rfl
    rw [e3, Option.bind_some, FUs, f_PF_shows_18, if_neg (by decide)]
    have e4 : gi (si N (b 1) 2 2) (b 1) 2 = 2 := by rw [gi_si, if_pos ⟨rfl, rfl⟩]
    rw [e4, if_neg (by decide), if_neg (by decide), Option.bind_some, if_pos rfl]
    exact ⟨_, rfl⟩
end CFS
