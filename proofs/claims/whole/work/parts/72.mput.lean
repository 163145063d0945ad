/-! The reference's put. -/
def Pt (um : Nat → Nat) (M M2 : Mm) : Prop := M2.2 = M.2 ∧ (∀ c, c ≠ um 0 → c ≠ um 1 → c ≠ um 2 → M2.1 c = M.1 c) ∧ (∀ j, 16 ≤ j → M2.1 (um 0) j = M.1 (um 0) j ∧ M2.1 (um 1) j = M.1 (um 1) j) ∧ ∀ j, 1 ≤ j → M2.1 (um 2) j = M.1 (um 2) j
theorem ModelR.ne3 {G : Nat → Nat} {M : Mm} {mo : Nat} {um : Nat → Nat} (h : ModelR G M mo um) : um 0 ≠ um 1 ∧ um 0 ≠ um 2 ∧ um 1 ≠ um 2 := by
  obtain ⟨-, -, -, -, -, -, -, -, -, -, -, -, -, -, -, -, a02, a12, a52, a01, -⟩ := h
  exact ⟨a01, a02, a12⟩
def sw (K : List Ent) (j : Nat) : List Ent := (K.set j (K.getD (K.length - 1) ([], 0))).take (K.length - 1)
theorem sw_perm {K : List Ent} {j : Nat} (hj : j < K.length) : (sw K j).Perm (K.eraseIdx j) := by
  have hne : K ≠ [] := fun q => by rw [q] at hj; simp at hj
  have hK := List.dropLast_concat_getLast hne
  generalize K.dropLast = X at hK
  generalize K.getLast hne = l at hK
  subst hK
  have hl : (X ++ [l]).length - 1 = X.length := by simp
  have hg : (X ++ [l]).getD X.length ([], 0) = l := by
    rw [List.getD_eq_getElem?_getD, List.getElem?_append_right (Nat.le_refl _), Nat.sub_self]
    rfl
  unfold sw
  rw [hl, hg]
  rw [List.length_append, List.length_singleton] at hj
  by_cases c : j = X.length
  · subst c
    rw [List.set_append, if_neg (by omega), Nat.sub_self, List.take_left' rfl, List.eraseIdx_append_of_length_le (Nat.le_refl _), Nat.sub_self]
    simp
  · have hj2 : j < X.length := by omega
    rw [List.set_append, if_pos hj2, List.take_left' (by rw [List.length_set]), List.eraseIdx_append_of_lt_length hj2, List.set_eq_take_append_cons_drop, if_pos hj2, List.eraseIdx_eq_take_drop_succ]
    refine List.perm_middle.trans ?_
    exact (List.perm_append_singleton l _).symm
section MU
variable {G : Nat → Nat} {M : Mm} {mo : Nat} {um : Nat → Nat} {K L : List Ent}
theorem mfd_key {p : List Nat} (hp : nb p) (hnb : ∀ e ∈ K, nb e.1) (h16 : K.length ≤ 16) : (fd (nI (num p)) K 0 = -1 ∧ vals (nI (num p)) K = 0 ∧ ¬ hasK p K) ∨ ∃ (j : Nat) (h : j < K.length), fd (nI (num p)) K 0 = nI j ∧ K[j].1 = p ∧ vals (nI (num p)) K = K[j].2 := by
  rcases fd_or (nI (num p)) K 0 (by omega) with ⟨a, b, c⟩ | ⟨j, hj, a, b, c⟩
  · refine Or.inl ⟨a, b, ?_⟩
    rintro ⟨e, he, q⟩
    exact c e he (by rw [q])
  · exact Or.inr ⟨j, hj, by rw [a, Nat.zero_add], (num_eqI (hnb _ (List.getElem_mem hj)) hp).mp b, c⟩
theorem put_set {j : Nat} {v : Int32} (h : MpS G M mo um 0 K L) (hj : j < K.length) : RepK (si M (um 1) j v) um 0 (K.set j (K[j].1, v)) ∧ Pt um M (si M (um 1) j v) := by
  have n3 := h.1.ne3
  obtain ⟨h1, h2, h3⟩ := h.2.2.1
  refine ⟨⟨by rw [List.length_set]; exact h1, by rw [List.length_set, gi_si, if_neg (fun q => n3.2.2 q.1.symm)]; exact h2, ?_⟩, rfl, fun c _ b _ => si_ne b, fun i hi => ⟨by rw [si_ne n3.1], ?_⟩, fun i _ => by rw [si_ne (fun q => n3.2.2 q.symm)]⟩
  · rw [rows_iff] at h3 ⊢
    intro i e he
    rw [gi_si, if_neg (fun q => n3.1 q.1), gi_si, Nat.mul_zero, Nat.zero_add]
    by_cases c : i = j
    · subst c
      rw [List.getElem?_set_self (by exact hj)] at he
      have : e = (K[i].1, v) := (Option.some.inj he).symm
      subst this
      rw [if_pos ⟨rfl, rfl⟩]
      have := (h3 i K[i] (List.getElem?_eq_getElem hj)).1
      rw [Nat.mul_zero, Nat.zero_add] at this
      exact ⟨this, rfl⟩
    · rw [List.getElem?_set_ne (fun q => c q.symm)] at he
      rw [if_neg (fun q => c q.2)]
      have := h3 i e he
      rw [Nat.mul_zero, Nat.zero_add] at this
      exact this
  · show gi (si M (um 1) j v) (um 1) i = gi M (um 1) i
    rw [gi_si, if_neg (fun q => by have := q.2; omega)]
theorem put_rem {j : Nat} (h : MpS G M mo um 0 K L) (hj : j < K.length) {x y : Int32} (hx : x = gi M (um 0) (K.length - 1)) (hy : y = gi M (um 1) (K.length - 1)) : RepK (si (si (si M (um 2) 0 (nI (K.length - 1))) (um 0) j x) (um 1) j y) um 0 (sw K j) ∧ Pt um M (si (si (si M (um 2) 0 (nI (K.length - 1))) (um 0) j x) (um 1) j y) := by
  have n3 := h.1.ne3
  obtain ⟨h1, h2, h3⟩ := h.2.2.1
  have hl : (sw K j).length = K.length - 1 := by unfold sw; rw [List.length_take, List.length_set]; omega
  have g0 : ∀ i, gi (si (si (si M (um 2) 0 (nI (K.length - 1))) (um 0) j x) (um 1) j y) (um 0) i = if i = j then x else gi M (um 0) i := fun i => by
    rw [gi_si, if_neg (fun q => n3.1 q.1), gi_si]
    by_cases c : i = j
    · rw [if_pos ⟨rfl, c⟩, if_pos c]
    · rw [if_neg (fun q => c q.2), if_neg c, gi_si, if_neg (fun q => n3.2.1 q.1)]
  have g1 : ∀ i, gi (si (si (si M (um 2) 0 (nI (K.length - 1))) (um 0) j x) (um 1) j y) (um 1) i = if i = j then y else gi M (um 1) i := fun i => by
    rw [gi_si]
    by_cases c : i = j
    · rw [if_pos ⟨rfl, c⟩, if_pos c]
    · rw [if_neg (fun q => c q.2), if_neg c, gi_si, if_neg (fun q => n3.1 q.1.symm), gi_si, if_neg (fun q => n3.2.2 q.1)]
  have g2 : ∀ i, gi (si (si (si M (um 2) 0 (nI (K.length - 1))) (um 0) j x) (um 1) j y) (um 2) i = if i = 0 then nI (K.length - 1) else gi M (um 2) i := fun i => by
    rw [gi_si, if_neg (fun q => n3.2.2 q.1.symm), gi_si, if_neg (fun q => n3.2.1 q.1.symm), gi_si]
    by_cases c : i = 0
    · rw [if_pos ⟨rfl, c⟩, if_pos c]
    · rw [if_neg (fun q => c q.2), if_neg c]
  refine ⟨⟨by rw [hl]; omega, by rw [g2, if_pos rfl, hl], ?_⟩, rfl, fun c a b d => ?_, fun i hi => ⟨?_, ?_⟩, fun i hi => ?_⟩
  · rw [rows_iff] at h3 ⊢
    intro i e he
    rw [g0, g1, Nat.mul_zero, Nat.zero_add]
    have hi : i < K.length - 1 := by rw [← hl]; exact (List.getElem?_eq_some_iff.mp he).1
    unfold sw at he
    rw [List.getElem?_take_of_lt hi] at he
    by_cases c : i = j
    · subst c
      rw [List.getElem?_set_self (by exact hj), List.getD_eq_getElem?_getD, List.getElem?_eq_getElem (show K.length - 1 < K.length by omega)] at he
      have he : K[K.length - 1] = e := Option.some.inj he
      have := h3 (K.length - 1) _ (List.getElem?_eq_getElem (show K.length - 1 < K.length by omega))
      rw [Nat.mul_zero, Nat.zero_add, he] at this
      rw [if_pos rfl, if_pos rfl, hx, hy]
      exact this
    · rw [List.getElem?_set_ne (fun q => c q.symm)] at he
      rw [if_neg c, if_neg c]
      have := h3 i e he
      rw [Nat.mul_zero, Nat.zero_add] at this
      exact this
  · rw [si_ne b, si_ne a, si_ne d]
  · have := g0 i
    rw [if_neg (by omega)] at this
    exact this
  · have := g1 i
    rw [if_neg (by omega)] at this
    exact this
  · have := g2 i
    rw [if_neg (by omega)] at this
    exact this
theorem put_add {p : List Nat} {v : Int32} (h : MpS G M mo um 0 K L) (hn : K.length < 16) : RepK (si (si (si M (um 0) K.length (nI (num p))) (um 1) K.length v) (um 2) 0 (nI K.length + 1)) um 0 (K ++ [(p, v)]) ∧ Pt um M (si (si (si M (um 0) K.length (nI (num p))) (um 1) K.length v) (um 2) 0 (nI K.length + 1)) := by
  have n3 := h.1.ne3
  obtain ⟨h1, h2, h3⟩ := h.2.2.1
  have g0 : ∀ i, gi (si (si (si M (um 0) K.length (nI (num p))) (um 1) K.length v) (um 2) 0 (nI K.length + 1)) (um 0) i = if i = K.length then nI (num p) else gi M (um 0) i := fun i => by
    rw [gi_si, if_neg (fun q => n3.2.1 q.1), gi_si, if_neg (fun q => n3.1 q.1), gi_si]
    by_cases c : i = K.length
    · rw [if_pos ⟨rfl, c⟩, if_pos c]
    · rw [if_neg (fun q => c q.2), if_neg c]
  have g1 : ∀ i, gi (si (si (si M (um 0) K.length (nI (num p))) (um 1) K.length v) (um 2) 0 (nI K.length + 1)) (um 1) i = if i = K.length then v else gi M (um 1) i := fun i => by
    rw [gi_si, if_neg (fun q => n3.2.2 q.1), gi_si]
    by_cases c : i = K.length
    · rw [if_pos ⟨rfl, c⟩, if_pos c]
    · rw [if_neg (fun q => c q.2), if_neg c, gi_si, if_neg (fun q => n3.1 q.1.symm)]
  have g2 : ∀ i, gi (si (si (si M (um 0) K.length (nI (num p))) (um 1) K.length v) (um 2) 0 (nI K.length + 1)) (um 2) i = if i = 0 then nI K.length + 1 else gi M (um 2) i := fun i => by
    rw [gi_si]
    by_cases c : i = 0
    · rw [if_pos ⟨rfl, c⟩, if_pos c]
    · rw [if_neg (fun q => c q.2), if_neg c, gi_si, if_neg (fun q => n3.2.2 q.1.symm), gi_si, if_neg (fun q => n3.2.1 q.1.symm)]
  refine ⟨⟨by rw [List.length_append, List.length_singleton]; omega, by rw [g2, if_pos rfl, nI_1, List.length_append]; rfl, ?_⟩, rfl, fun c a b d => ?_, fun i hi => ⟨?_, ?_⟩, fun i hi => ?_⟩
  · rw [rows_iff] at h3 ⊢
    intro i e he
    rw [g0, g1, Nat.mul_zero, Nat.zero_add]
    by_cases c : i = K.length
    · subst c
      rw [List.getElem?_append_right (Nat.le_refl _), Nat.sub_self] at he
      have : e = (p, v) := (Option.some.inj he).symm
      subst this
      rw [if_pos rfl, if_pos rfl]
      exact ⟨rfl, rfl⟩
    · have hi : i < K.length := by
        have := (List.getElem?_eq_some_iff.mp he).1
        rw [List.length_append, List.length_singleton] at this
        omega
      rw [List.getElem?_append_left hi] at he
      rw [if_neg c, if_neg c]
      have := h3 i e he
      rw [Nat.mul_zero, Nat.zero_add] at this
      exact this
  · rw [si_ne d, si_ne b, si_ne a]
  · have := g0 i
    rw [if_neg (by omega)] at this
    exact this
  · have := g1 i
    rw [if_neg (by omega)] at this
    exact this
  · have := g2 i
    rw [if_neg (by omega)] at this
    exact this
theorem mput_eq (h : MpS G M mo um 0 K L) {p : List Nat} (hp : nb p) {v : Int32} : ∃ M2 K2, f_MO_put G mo (nI (num p)) v M = some (vals (nI (num p)) K, M2) ∧ RepK M2 um 0 K2 ∧ Pt um M M2 ∧ K2.Perm (chg p v K) := by
  have h16 := h.2.2.1.1
  have h4 := h.2.2.1.2.1
  have hk : Keys K := h.2.2.2.2.keys.perm h.2.2.2.1.symm
  have n3 := h.1.ne3
  have r := h.1
  obtain ⟨r0, r1, r2, r3, r4, r5, r6, r7, g0, g1, g2, -⟩ := r
  have hf := find_eq h.1 h.2.1 h.2.2.1 (nI (num p))
  rw [nI_0, Nat.mul_zero] at hf
  have hv0 : 0 ≤ f_MO_nibbles (nI (num p)) := by rw [MO_nibs hp]; exact nI_pos' (by have := hp.1; omega)
  unfold f_MO_put
  rw [if_pos hv0, hf, Option.bind_some]
  rcases mfd_key hp h.nb h16 with ⟨e1, e2, e3⟩ | ⟨j, hj, e1, e2, e3⟩
  · rw [e1, e2, if_neg (by decide), if_pos (by decide), if_pos (by decide)]
    have hc : chg p v K = if v = 0 ∨ K.length = 16 then K else (p, v) :: K := by unfold chg; rw [if_neg e3]
    rw [hc]
    by_cases hv : v = 0
    · rw [if_pos hv, if_pos (Or.inl hv)]
      exact ⟨M, K, rfl, h.2.2.1, ⟨rfl, fun _ _ _ _ => rfl, fun _ _ => ⟨rfl, rfl⟩, fun _ _ => rfl⟩, List.Perm.refl _⟩
    · rw [if_neg hv, r2, g2, ix04, Option.bind_some, h4]
      by_cases hf : K.length = 16
      · rw [if_pos (Or.inr hf), if_pos (by rw [hf]; exact Int32.le_refl _)]
        exact ⟨M, K, rfl, h.2.2.1, ⟨rfl, fun _ _ _ _ => rfl, fun _ _ => ⟨rfl, rfl⟩, fun _ _ => rfl⟩, List.Perm.refl _⟩
      · have hlt : ¬ (16 : Int32) ≤ nI K.length := nI_ge (show K.length < 16 by omega) (by decide)
        obtain ⟨q1, q2⟩ := put_add (p := p) (v := v) h (by omega)
        have hnc : ¬ (v = 0 ∨ K.length = 16) := by
          rintro (q | q)
          · exact hv q
          · exact hf q
        rw [if_neg hnc, if_neg hlt, Option.bind_some, h4, r0, g0, ix_nI (show K.length < 64 by omega) (by decide), Option.bind_some]
        simp only [st]
        rw [gr_si, r2, g2, ix04, Option.bind_some, gi_si, if_neg (fun q => n3.2.1 q.1.symm), h4, gr_si, r1, g1, ix_nI (show K.length < 64 by omega) (by decide), Option.bind_some, gr_si, gr_si, r2, g2, ix04, Option.bind_some, Option.bind_some, gi_si, if_neg (fun q => n3.2.2 q.1.symm), gi_si, if_neg (fun q => n3.2.1 q.1.symm), h4]
        exact ⟨_, _, rfl, q1, q2, List.perm_append_singleton _ _⟩
  · subst e2
    have hK : hasK K[j].1 K := ⟨_, List.getElem_mem hj, rfl⟩
    have hc : chg K[j].1 v K = if v = 0 then wo K[j].1 K else (K[j].1, v) :: wo K[j].1 K := by unfold chg; rw [if_pos hK]
    have hr := (h.2.2.1.2.2 j hj).2
    rw [Nat.mul_zero, Nat.zero_add] at hr
    have hnn : ¬ nI j < 0 := nI_pos (by omega)
    have ij : ix (nI j) 64 = some j := ix_nI (by omega) (by decide)
    rw [e1, e3, hc, if_pos (nI_pos' (by omega)), r1, g1, ij, Option.bind_some, hr]
    simp only [st]
    rw [if_neg hnn]
    by_cases hv : v = 0
    · rw [if_pos hv, if_pos hv]
      obtain ⟨q1, q2⟩ := put_rem (j := j) h hj rfl rfl
      have i5 : ix (nI (K.length - 1)) 64 = some (K.length - 1) := ix_nI (by omega) (by decide)
      have es : nI K.length - 1 = nI (K.length - 1) := nI_sub' (b := 1) (by omega)
      have s2 : ∀ x : Int32, gi (si M (um 2) 0 x) (um 2) 0 = x := fun x => by rw [gi_si, if_pos ⟨rfl, rfl⟩]
      rw [r2, g2, ix04, Option.bind_some, Option.bind_some, h4, es, gr_si, r2, g2, ix04, Option.bind_some, s2, gr_si, r0, g0, i5, Option.bind_some, ij, Option.bind_some, gr_si, gr_si, r2, g2, ix04, Option.bind_some, gi_si, if_neg (fun q => n3.2.1 q.1.symm), s2, gr_si, gr_si, r1, g1, i5, Option.bind_some, ij, Option.bind_some]
      have a1 : gi (si M (um 2) 0 (nI (K.length - 1))) (um 0) (K.length - 1) = gi M (um 0) (K.length - 1) := by rw [gi_si, if_neg (fun q => n3.2.1 q.1)]
      have a2 : ∀ x : Int32, gi (si (si M (um 2) 0 (nI (K.length - 1))) (um 0) j x) (um 1) (K.length - 1) = gi M (um 1) (K.length - 1) := fun x => by rw [gi_si, if_neg (fun q => n3.1 q.1.symm), gi_si, if_neg (fun q => n3.2.2 q.1)]
      rw [a2, a1]
      exact ⟨_, _, rfl, q1, q2, by rw [← era_wo hk hj]; exact sw_perm hj⟩
    · rw [if_neg hv, if_neg hnn, if_neg hv]
      obtain ⟨q1, q2⟩ := put_set (v := v) h hj
      exact ⟨_, _, rfl, q1, q2, set_wo hk hj⟩
end MU
