/-! The reference of a part; the root number. -/
section CT
variable {G : Nat → Nat} {z : Nat} {u : Nat → Nat} {L : List Ent}
theorem part_nb {P : List Nat} {A : List Ent} {fr : Nat} (hL : Srt L) (ha : At L fr (ab P A)) : ∀ e ∈ A, nb (P ++ e.1) := fun e he => by
  obtain ⟨i, hi⟩ := List.getElem?_of_mem he
  exact hL.1 _ (List.mem_of_getElem? (ha i _ (ab_at hi)))
theorem part_cm {P : List Nat} {A : List Ent} {fr : Nat} (hL : Srt L) (ha : At L fr (ab P A)) (hA : Srt A) (h2 : 2 ≤ A.length) : P.length + cm A < 4 := by
  have hb := part_nb hL ha
  have hP : P.length ≤ 4 := by
    obtain ⟨e, he, -, -⟩ := hdk_mem (A := A) (by omega)
    have := (hb e he).1
    rw [List.length_append] at this
    omega
  have := cm_lt hA h2 (m := 4 - P.length) (fun e he => by
    have := (hb e he).1
    rw [List.length_append] at this
    omega)
  omega
/-- a part's branch stands at the part's rows -/
theorem at_branch {P : List Nat} {A : List Ent} {fr : Nat} (hA : Srt A) (ha : At L fr (ab P A)) : At L fr (ab (P ++ (hdk A).take (cm A)) (strip (cm A) A)) := by
  rw [← ab_strip (cm_all hA)]
  exact ha
theorem brl_len {P : List Nat} {A : List Ent} (hA : Srt A) (h1 : 1 ≤ A.length) : (P ++ (hdk A).take (cm A)).length = P.length + cm A := by
  obtain ⟨e, he, e1, -⟩ := hdk_mem h1
  have := (cm_all hA e he).1
  rw [List.length_append, List.length_take, e1]
  omega
theorem strip_ln {A : List Ent} {k : Nat} : (strip k A).length = A.length := List.length_map _
theorem strip_0 {A : List Ent} : strip 0 A = A := by unfold strip; simp
theorem part_common {M : Mm} (h : TrM G M z u L) {P : List Nat} {A : List Ent} {fr : Nat} (ha : At L fr (ab P A)) (h1 : 1 ≤ A.length) : f_PA_commonLength (gi M (u 1) fr) (gi M (u 1) (fr + A.length - 1)) = some (nI (P.length + cm A)) := by
  have r1 := row_at h ha (hdk_at h1)
  obtain ⟨v, hv⟩ := ltk_at h1
  have r2 := row_at h ha hv
  rw [Nat.add_zero] at r1
  rw [← Nat.add_sub_assoc h1] at r2
  rw [r1.1, r2.1, PA_common_eq r1.2.2.2 r2.2.2.2, cl_app]
  rfl
theorem wref_eq {rc : Nat → Int32 → Int32 → Int32 → Nat → Int32 → Mm → Option (Int32 × Mm)} {k : Nat} (hk : k ≤ 4) (hrc : ∀ k', k < k' → k' ≤ 4 → RcOK G z u L rc k') : RcOK G z u L (f_TR_writeReference rc G) k := by
  intro P A fr w s M hP h ha hA hw hs hG
  have h16 := h.2.1.1
  by_cases h0 : A.length = 0
  · have e : refW dg A = [] := by unfold refW; rw [if_pos h0]
    rw [e, h0, Nat.add_zero]
    unfold f_TR_writeReference
    rw [if_pos rfl]
    exact ⟨M, rfl, WrS.nil⟩
  have h1 : 1 ≤ A.length := by omega
  have r1 := row_at h ha (hdk_at h1)
  rw [Nat.add_zero] at r1
  have hen : fr + A.length ≤ 16 := by
    obtain ⟨v, hv⟩ := ltk_at h1
    have := (row_at h ha hv).2.2.1
    omega
  have c1 : ¬ nI fr = nI (fr + A.length) := fun q => by have := (nI_eq (by omega) (by omega)).mp q; omega
  have c2 : nI (fr + A.length) - nI fr = nI A.length := by rw [nI_sub' (by omega), Nat.add_sub_cancel_left]
  subst hP
  unfold f_TR_writeReference
  rw [if_neg c1, c2, h.1.1.1, h.1.1.2.1, h.1.2.1.1]
  by_cases hone : A.length = 1
  · have e : refW dg A = [2 * (nI (num (hdk A))).toInt64 + 1, (hdv A).toInt64] := by unfold refW; rw [if_neg h0, if_pos hone]
    rw [e] at hs ⊢
    have hs2 : s + 2 ≤ G w := hs
    have hwo : f_PA_without (nI (num (P ++ hdk A))) (nI P.length) = nI (num (hdk A)) := by rw [PA_without_eq r1.2.2.2 (by rw [List.length_append]; omega), List.drop_left]
    rw [if_pos (by rw [hone]; rfl), ix_nI r1.2.2.1 (by decide), Option.bind_some, ix_nI (by omega) hG, Option.bind_some, r1.1, hwo]
    simp only [st]
    rw [gr_sl, gr_sl, h.1.1.1, h.1.1.2.2.1, h.1.2.1.2.1, ix_nI r1.2.2.1 (by decide), Option.bind_some, nI_1, ix_nI (by omega) hG, Option.bind_some, gi_sl, r1.2.1]
    exact ⟨_, rfl, WrS.one.app WrS.one⟩
  · have h2 : 2 ≤ A.length := by omega
    have hcm := part_cm h.2.2 ha hA h2
    have cne : ¬ nI A.length = 1 := fun q => by have := (nI_eq (b := 1) (by omega) (by decide)).mp q; omega
    have hab := at_branch hA ha
    have hbl := brl_len (P := P) hA h1
    obtain ⟨M2, e2, w1, w2, w3⟩ := bd_eq (Q := P ++ (hdk A).take (cm A)) (A := strip (cm A) A) h (by rw [hbl]; exact hrc _ (by omega) (by omega)) (srt_strip' hA) hab (by rw [strip_ln]; omega) (by omega)
    rw [hbl, strip_ln] at e2
    have h' := h.mv w1 w2
    have wk : M2.2.1 w = M.2.1 w := w3 w (fun j a b => hw j (by omega) b)
    rw [if_neg cne, ix_nI r1.2.2.1 (by decide), Option.bind_some, show nI (fr + A.length) - 1 = nI (fr + A.length - 1) from nI_sub' (b := 1) (by omega), ix_nI (by omega) (by decide), Option.bind_some, part_common h ha h1, Option.bind_some, e2, Option.bind_some]
    by_cases hc : cm A = 0
    · have e : refW dg A = [dg (strip (cm A) A)] := by unfold refW; rw [if_neg h0, if_neg hone, if_pos hc, hc, strip_0]
      rw [e] at hs ⊢
      have hs2 : s + 1 ≤ G w := hs
      rw [if_pos (by rw [hc]; rfl), ix_nI (by omega) hG, Option.bind_some]
      simp only [st]
      refine ⟨_, rfl, w1, w2, fun c a1 a2 => ?_, ?_⟩
      · rw [sl_ne a1]
        exact w3 c (fun j a b => a2 j (by omega) b)
      · rw [sl_row, wk, wr_one]
    · have e : refW dg A = [2 * (nI (num ((hdk A).take (cm A)))).toInt64, dg (strip (cm A) A)] := by unfold refW; rw [if_neg h0, if_neg hone, if_neg hc]
      rw [e] at hs ⊢
      have hs2 : s + 2 ≤ G w := hs
      have cq : ¬ nI (P.length + cm A) = nI P.length := fun q => by have := (nI_eq (by omega) (by omega)).mp q; omega
      have r1' : gi M2 (u 1) fr = nI (num (P ++ hdk A)) := by
        show M2.1 (u 1) fr = _
        rw [w1]
        exact r1.1
      have hle : P.length + cm A ≤ (P ++ hdk A).length := by
        obtain ⟨x, hx, x1, -⟩ := hdk_mem h1
        have := (cm_all hA x hx).1
        rw [List.length_append, x1]
        omega
      have ht : (P ++ hdk A).take (P.length + cm A) = P ++ (hdk A).take (cm A) := by rw [List.take_append, List.take_of_length_le (by omega), Nat.add_sub_cancel_left]
      have hnt : nb (P ++ (hdk A).take (cm A)) := by
        rw [← ht]
        exact ⟨by rw [List.length_take]; have := r1.2.2.2.1; omega, fun d hd => r1.2.2.2.2 d (List.mem_of_mem_take hd)⟩
      have hwo : f_PA_without (f_PA_front (nI (num (P ++ hdk A))) (nI (P.length + cm A))) (nI P.length) = nI (num ((hdk A).take (cm A))) := by
        rw [PA_front_eq r1.2.2.2 hle, ht, PA_without_eq hnt (by rw [List.length_append]; omega), List.drop_left]
      rw [if_neg cq, h'.1.1.1, h'.1.1.2.1, h.1.2.1.1, ix_nI r1.2.2.1 (by decide), Option.bind_some, ix_nI (by omega) hG, Option.bind_some, r1', hwo]
      simp only [st]
      rw [nI_1, ix_nI (by omega) hG, Option.bind_some]
      have q : WrS u M2 (sl (sl M2 w s (2 * (nI (num ((hdk A).take (cm A)))).toInt64)) w (s + 1) (dg (strip (cm A) A))) P.length w s [2 * (nI (num ((hdk A).take (cm A)))).toInt64, dg (strip (cm A) A)] := WrS.one.app WrS.one
      refine ⟨_, rfl, q.1.trans w1, q.2.1.trans w2, fun c a1 a2 => (q.2.2.1 c a1 a2).trans (w3 c (fun j a b => a2 j (by omega) b)), ?_⟩
      rw [q.2.2.2, wk]
theorem FR_eq : ∀ (d k : Nat), k ≤ 4 → 5 ≤ k + d → RcOK G z u L (F_TR_writeReference G d) k := by
  intro d
  induction d with
  | zero => intro k h1 h2; omega
  | succ d ih =>
    intro k h1 h2
    have := wref_eq (G := G) (z := z) (u := u) (L := L) (rc := F_TR_writeReference G d) h1 (fun k' a b => ih k' b (by omega))
    intro P A fr w s M
    exact this P A fr w s M
theorem at_all : At L 0 (ab [] L) := by
  intro i e he
  unfold ab at he
  rw [Nat.zero_add]
  simpa using he
theorem top_eq {M : Mm} {w s : Nat} (h : TrM G M z u L) (hw : ∀ j, j < 4 → w ≠ u (9 + j)) (hs : s + (refW dg L).length ≤ G w) (hG : G w < 2 ^ 31) : ∃ M2, F_TR_writeReference G RD z 0 (gi M (gr M z 0) 2) 0 w (nI s) M = some (nI (refW dg L).length, M2) ∧ WrS u M M2 0 w s (refW dg L) := by
  obtain ⟨M2, e, q⟩ := FR_eq (G := G) (z := z) (u := u) (L := L) RD 0 (by omega) (by decide) [] L 0 w s M rfl h at_all h.2.2 (fun j _ b => hw j b) hs hG
  rw [nI_0, Nat.zero_add] at e
  rw [h.1.1.1, h.2.1.2.2.2.1]
  exact ⟨M2, e, q⟩
/-- what a reading method of a trie may change: the words of its drafts and of its top reference -/
def Scr (u : Nat → Nat) (M M2 : Mm) : Prop := M2.1 = M.1 ∧ M2.2.2 = M.2.2 ∧ ∀ c, c ≠ u 7 → (∀ j, j < 4 → c ≠ u (9 + j)) → M2.2.1 c = M.2.1 c
theorem root_eq {M : Mm} (h : TrM G M z u L) : ∃ M2, f_TR_rootNumber G z M = some (dig (refW dg L), M2) ∧ Scr u M M2 := by
  have hd : ∀ j, j < 4 → u 7 ≠ u (9 + j) := fun j b e => by
    have := h.1.2.2.1 _ _ (by omega) (by omega) e
    omega
  have hg : G (u 7) = 2 := h.1.2.1.2.2.2.2.2.2.1
  have hl := ref_len dg L
  obtain ⟨M2, e, q⟩ := top_eq (w := u 7) (s := 0) h hd (by omega) (by omega)
  refine ⟨M2, ?_, q.1, q.2.1, fun c a b => q.2.2.1 c a (fun j _ hj => b j hj)⟩
  unfold f_TR_rootNumber
  have h7 : gr M z 8 = u 7 := h.1.1.2.2.2.2.2.2.2.1
  have h7' : gr M2 z 8 = u 7 := (h.mv q.1 q.2.1).1.1.2.2.2.2.2.2.2.1
  rw [nI_0] at e
  rw [h7, e, Option.bind_some]
  have := digest_eq (G := G) (M := M2) (w := u 7) (s := 0) (ws := refW dg L) (by omega) (by omega) (by omega) (fun i hi => by
    show M2.2.1 (u 7) (0 + i) = _
    rw [q.2.2.2, wr_at hi])
  rw [nI_0] at this
  simp only [h7', this, Option.bind_some]
end CT
