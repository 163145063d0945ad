/-! Rows stay in order; a row goes. -/
theorem ipos_up {p : List Nat} {es : List Ent} : ∀ n, n ≤ es.length → (∀ (i : Nat) (e : Ent), es[i]? = some e → i < n → ipos p es n ≤ i → ordn p < ordn e.1) ∧ (ipos p es n = 0 ∨ ∃ e, es[ipos p es n - 1]? = some e ∧ 1 ≤ ipos p es n ∧ ordn e.1 ≤ ordn p) := by
  intro n
  induction n with
  | zero => intro _; exact ⟨fun i e _ hi => by omega, Or.inl rfl⟩
  | succ n ih =>
    intro hn
    obtain ⟨i1, i2⟩ := ih (by omega)
    obtain ⟨d, hd⟩ : ∃ d, es[n]? = some d := ⟨_, List.getElem?_eq_getElem (show n < es.length by omega)⟩
    have ei : ipos p es (n + 1) = if ordn d.1 ≤ ordn p then n + 1 else ipos p es n := by rw [ipos, hd]
    rw [ei]
    by_cases hc : ordn d.1 ≤ ordn p
    · rw [if_pos hc]
      exact ⟨fun i e he hi hr => by omega, Or.inr ⟨d, hd, by omega, hc⟩⟩
    · rw [if_neg hc]
      refine ⟨fun i e he hi hr => ?_, i2⟩
      by_cases hin : i = n
      · subst hin
        have := Option.some.inj (he.symm.trans hd)
        subst this
        omega
      · exact i1 i e he (by omega) hr
theorem srt_at {es : List Ent} (h : Srt es) {i j : Nat} {d e : Ent} (hd : es[i]? = some d) (he : es[j]? = some e) (hij : i < j) : lx d.1 e.1 := by
  obtain ⟨hi, rfl⟩ := List.getElem?_eq_some_iff.mp hd
  obtain ⟨hj, rfl⟩ := List.getElem?_eq_some_iff.mp he
  exact List.pairwise_iff_getElem.mp h.2 i j hi hj hij
theorem ins_parts {es : List Ent} {p : List Nat} (h : Srt es) (hp : nb p) (hne : ∀ e ∈ es, e.1 ≠ p) : (∀ e ∈ es.take (ipos p es es.length), lx e.1 p) ∧ (∀ e ∈ es.drop (ipos p es es.length), lx p e.1) := by
  obtain ⟨h1, h2⟩ := ipos_up (p := p) (es := es) es.length (Nat.le_refl _)
  have hle := ipos_le (p := p) (es := es) es.length
  constructor
  · intro e he
    obtain ⟨i, hi⟩ := List.getElem?_of_mem he
    have hir : i < ipos p es es.length := by
      have := (List.getElem?_eq_some_iff.mp hi).1
      rw [List.length_take] at this
      omega
    rw [List.getElem?_take_of_lt hir] at hi
    have hb := h.1 e (List.mem_of_getElem? hi)
    rcases h2 with h2 | ⟨d, hd, h3, h4⟩
    · omega
    · have hbd := h.1 d (List.mem_of_getElem? hd)
      have hed : ordn e.1 ≤ ordn p := by
        by_cases hid : i = ipos p es es.length - 1
        · rw [hid] at hi
          have := Option.some.inj (hi.symm.trans hd)
          subst this
          exact h4
        · have := (ordn_lt hb hbd).mpr (srt_at h hi hd (by omega))
          omega
      rw [← ordn_lt hb hp]
      rcases Nat.lt_or_eq_of_le hed with q | q
      · exact q
      · exact absurd (ordn_eq hb hp q) (hne e (List.mem_of_getElem? hi))
  · intro e he
    obtain ⟨i, hi⟩ := List.getElem?_of_mem he
    rw [List.getElem?_drop] at hi
    have hb := h.1 e (List.mem_of_getElem? hi)
    rw [← ordn_lt hp hb]
    exact h1 _ e hi (List.getElem?_eq_some_iff.mp hi).1 (by omega)
theorem ins_srt {es : List Ent} {p : List Nat} {v : Int32} (h : Srt es) (hp : nb p) (hne : ∀ e ∈ es, e.1 ≠ p) : Srt (es.take (ipos p es es.length) ++ (p, v) :: es.drop (ipos p es es.length)) := by
  obtain ⟨h1, h2⟩ := ins_parts h hp hne
  have ht : es.take (ipos p es es.length) ++ es.drop (ipos p es es.length) = es := List.take_append_drop _ _
  have hs := h.2
  rw [← ht, List.pairwise_append] at hs
  refine ⟨fun e he => ?_, ?_⟩
  · rcases List.mem_append.mp he with he | he
    · exact h.1 e (List.mem_of_mem_take he)
    · rcases List.mem_cons.mp he with rfl | he
      · exact hp
      · exact h.1 e (List.mem_of_mem_drop he)
  · rw [List.pairwise_append]
    refine ⟨hs.1, List.pairwise_cons.mpr ⟨fun e he => h2 e he, hs.2.1⟩, fun d hd e he => ?_⟩
    rcases List.mem_cons.mp he with rfl | he
    · exact h1 d hd
    · exact hs.2.2 d hd e he
theorem ins_perm {es : List Ent} {e : Ent} {r : Nat} : (es.take r ++ e :: es.drop r).Perm (e :: es) := by
  have := List.perm_middle (a := e) (l₁ := es.take r) (l₂ := es.drop r)
  rw [List.take_append_drop] at this
  exact this
section REM
variable {G : Nat → Nat} {a A V : Nat} {es : List Ent}
/-- the rows from g on, up to r, have moved down by one -/
def Dn (M : Mm) (A V a : Nat) (es : List Ent) (g r : Nat) : Prop := (∀ (i : Nat) (e : Ent), es[i]? = some e → i < g → gi M A i = nI (num e.1) ∧ gi M V i = e.2) ∧ (∀ (i : Nat) (e : Ent), es[i + 1]? = some e → g ≤ i → i < r → gi M A i = nI (num e.1) ∧ gi M V i = e.2) ∧ (∀ (i : Nat) (e : Ent), es[i]? = some e → r ≤ i → g < i → gi M A i = nI (num e.1) ∧ gi M V i = e.2) ∧ gi M a 2 = nI (es.length - 1)
theorem rem_stop {N : Mm} {f n r : Nat} (hn : gi N a 2 = nI n) (hr : n ≤ r) (h : r < 2 ^ 31) : f_PM_remove_12 G (f + 1) a (nI r) N = some N := by
  rw [f_PM_remove_12, hn, if_pos ((nI_leI (by omega) h).mpr hr)]
theorem rem_step {N : Mm} {f n r : Nat} (e0 : gr N a 0 = A) (e1 : gr N a 1 = V) (h2 : G A = 16) (h3 : G V = 16) (hn : gi N a 2 = nI n) (hr : r < n) (h16 : n < 16) : f_PM_remove_12 G (f + 1) a (nI r) N = f_PM_remove_12 G f a (nI (r + 1)) (si (si N A r (gi N A (r + 1))) V r (gi (si N A r (gi N A (r + 1))) V (r + 1))) := by
  have hg : ¬ nI n ≤ nI r := nI_ge hr (by omega)
  have i1 : ix (nI r) 16 = some r := ix_nI (by omega) (by decide)
  have i2 : ix (nI (r + 1)) 16 = some (r + 1) := ix_nI (by omega) (by decide)
  have ea : nI r + 1 = nI (r + 1) := nI_add r 1
  rw [f_PM_remove_12, hn, if_neg hg, ea, e0, h2, i2, Option.bind_some, i1, Option.bind_some]
  simp only [st]
  rw [gr_si, e1, h3, i2, Option.bind_some, i1, Option.bind_some]
theorem dn_step {N : Mm} {g r : Nat} (hA : a ≠ A) (hV : a ≠ V) (hAV : A ≠ V) (hs : Dn N A V a es g r) (hg : g ≤ r) (hr : r + 1 < es.length) : Dn (si (si N A r (gi N A (r + 1))) V r (gi (si N A r (gi N A (r + 1))) V (r + 1))) A V a es g (r + 1) := by
  have ga : ∀ j, gi (si (si N A r (gi N A (r + 1))) V r (gi (si N A r (gi N A (r + 1))) V (r + 1))) A j = if j = r then gi N A (r + 1) else gi N A j := fun j => by
    rw [gi_si, if_neg (fun z => hAV z.1), gi_si]
    by_cases hj : j = r
    · rw [if_pos ⟨rfl, hj⟩, if_pos hj]
    · rw [if_neg (fun z => hj z.2), if_neg hj]
  have gb : ∀ j, gi (si N A r (gi N A (r + 1))) V j = gi N V j := fun j => by rw [gi_si, if_neg (fun z => hAV z.1.symm)]
  have gv : ∀ j, gi (si (si N A r (gi N A (r + 1))) V r (gi (si N A r (gi N A (r + 1))) V (r + 1))) V j = if j = r then gi N V (r + 1) else gi N V j := fun j => by
    rw [gi_si]
    by_cases hj : j = r
    · rw [if_pos ⟨rfl, hj⟩, if_pos hj, gb]
    · rw [if_neg (fun z => hj z.2), if_neg hj, gb]
  refine ⟨fun i e he hi => ?_, fun i e he h1 h2 => ?_, fun i e he h1 h2 => ?_, ?_⟩
  · rw [ga, gv, if_neg (by omega), if_neg (by omega)]
    exact hs.1 i e he hi
  · rw [ga, gv]
    by_cases hir : i = r
    · subst hir
      rw [if_pos rfl, if_pos rfl]
      exact hs.2.2.1 (i + 1) e he (by omega) (by omega)
    · rw [if_neg hir, if_neg hir]
      exact hs.2.1 i e he h1 (by omega)
  · rw [ga, gv, if_neg (by omega), if_neg (by omega)]
    exact hs.2.2.1 i e he (by omega) h2
  · rw [gi_si, if_neg (fun z => hV z.1), gi_si, if_neg (fun z => hA z.1)]
    exact hs.2.2.2
theorem rem_go {M : Mm} {g : Nat} (eA : gr M a 0 = A) (eV : gr M a 1 = V) (h2 : G A = 16) (h3 : G V = 16) (hA : a ≠ A) (hV : a ≠ V) (hAV : A ≠ V) (hg : g < es.length) (hn : es.length ≤ 16) : ∀ (k r f : Nat) (N : Mm), r + k = es.length - 1 → g ≤ r → Only M N [a, A, V] → (∀ j, j ≠ 2 → gi N a j = gi M a j) → Dn N A V a es g r → ∃ M2, f_PM_remove_12 G (k + f + 1) a (nI r) N = some M2 ∧ Only M M2 [a, A, V] ∧ (∀ j, j ≠ 2 → gi M2 a j = gi M a j) ∧ Dn M2 A V a es g (es.length - 1) := by
  intro k
  induction k with
  | zero =>
    intro r f N hr hgr ho hj hd
    have : r = es.length - 1 := by omega
    subst this
    exact ⟨N, rem_stop hd.2.2.2 (Nat.le_refl _) (by omega), ho, hj, hd⟩
  | succ k ih =>
    intro r f N hr hgr ho hj hd
    rw [show k + 1 + f + 1 = (k + f + 1) + 1 by omega, rem_step (ho.gr.trans eA) (ho.gr.trans eV) h2 h3 hd.2.2.2 (by omega) (by omega)]
    refine ih (r + 1) f _ (by omega) (by omega) ((ho.si (by simp)).si (by simp)) (fun j hj2 => ?_) (dn_step hA hV hAV hd hgr (by omega))
    rw [gi_si, if_neg (fun q => hV q.1), gi_si, if_neg (fun q => hA q.1)]
    exact hj j hj2
theorem remove_eq {M : Mm} {g : Nat} (h : RepM G M a es) (eA : gr M a 0 = A) (eV : gr M a 1 = V) (hA : a ≠ A) (hV : a ≠ V) (hAV : A ≠ V) (hg : g < es.length) : ∃ M2, f_PM_remove G a (nI g) M = some M2 ∧ InsAt G M M2 a A V (es.eraseIdx g) := by
  obtain ⟨h1, h2, h3, h4, h5⟩ := h
  rw [eA] at h2
  rw [eV] at h3
  rw [eA, eV, rows_iff] at h5
  have e1 : gi M a 2 - 1 = nI (es.length - 1) := by rw [h4]; exact pk_sub (b := 1) (by omega)
  have hd : Dn (si M a 2 (nI (es.length - 1))) A V a es g g := by
    have k1 : ∀ j, gi (si M a 2 (nI (es.length - 1))) A j = gi M A j := fun j => by rw [gi_si, if_neg (fun q => hA q.1.symm)]
    have k2 : ∀ j, gi (si M a 2 (nI (es.length - 1))) V j = gi M V j := fun j => by rw [gi_si, if_neg (fun q => hV q.1.symm)]
    refine ⟨fun i e he _ => ?_, fun i e _ q1 q2 => by omega, fun i e he _ _ => ?_, by rw [gi_si, if_pos ⟨rfl, rfl⟩]⟩
    · rw [k1, k2]
      have := h5 i e he
      rw [Nat.zero_add] at this
      exact this
    · rw [k1, k2]
      have := h5 i e he
      rw [Nat.zero_add] at this
      exact this
  have ho : Only M (si M a 2 (nI (es.length - 1))) [a, A, V] := Only.rf.si (by simp)
  obtain ⟨M2, m1, m2, m3, m4⟩ := rem_go (G := G) eA eV h2 h3 hA hV hAV hg h1 (es.length - 1 - g) g (4095 - (es.length - 1 - g)) _ (by omega) (Nat.le_refl _) ho (fun j hj => by rw [gi_si, if_neg (fun q => hj q.2)]) hd
  refine ⟨M2, ?_, ⟨?_, ?_, ?_, ?_, ?_⟩, m2, m3⟩
  · unfold f_PM_remove
    simp only [st]
    rw [e1, show FU = es.length - 1 - g + (4095 - (es.length - 1 - g)) + 1 by unfold FU; omega]
    exact m1
  · rw [List.length_eraseIdx_of_lt hg]; omega
  · rw [m2.gr, eA]; exact h2
  · rw [m2.gr, eV]; exact h3
  · rw [List.length_eraseIdx_of_lt hg]; exact m4.2.2.2
  · rw [m2.gr, m2.gr, eA, eV, rows_iff]
    intro i e he
    rw [Nat.zero_add]
    rw [List.getElem?_eraseIdx] at he
    by_cases hi : i < g
    · rw [if_pos hi] at he
      exact m4.1 i e he hi
    · rw [if_neg hi] at he
      have := (List.getElem?_eq_some_iff.mp he).1
      exact m4.2.1 i e he (by omega) (by omega)
end REM
theorem era_srt {es : List Ent} {g : Nat} (h : Srt es) : Srt (es.eraseIdx g) := ⟨fun e he => h.1 e (List.mem_of_mem_eraseIdx he), h.2.sublist (List.eraseIdx_sublist es g)⟩
