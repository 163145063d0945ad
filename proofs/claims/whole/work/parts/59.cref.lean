/-! References and branches, as the trie writes them. -/
theorem cl_app : ∀ (p a b : List Nat), cl (p ++ a) (p ++ b) = p.length + cl a b := by
  intro p
  induction p with
  | nil => intro a b; simp
  | cons x p ih =>
    intro a b
    rw [List.cons_append, List.cons_append, cl, if_pos rfl, ih, List.length_cons]
    omega
section CR
variable {G : Nat → Nat} {z : Nat} {u : Nat → Nat} {L : List Ent}
/-- what is asked of the recursion: the children's references -/
def RcOK (G : Nat → Nat) (z : Nat) (u : Nat → Nat) (L : List Ent) (rc : Nat → Int32 → Int32 → Int32 → Nat → Int32 → Mm → Option (Int32 × Mm)) (k : Nat) : Prop := ∀ (P : List Nat) (A : List Ent) (fr w s : Nat) (M : Mm), P.length = k → TrM G M z u L → At L fr (ab P A) → Srt A → (∀ j, k ≤ j → j < 4 → w ≠ u (9 + j)) → s + (refW dg A).length ≤ G w → G w < 2 ^ 31 → ∃ M2, rc z (nI fr) (nI (fr + A.length)) (nI k) w (nI s) M = some (nI (refW dg A).length, M2) ∧ WrS u M M2 k w s (refW dg A)
theorem wb_stop {rc : Nat → Int32 → Int32 → Int32 → Nat → Int32 → Mm → Option (Int32 × Mm)} {M : Mm} {Q : List Nat} {A : List Ent} {fr en w s p row f : Nat} (h : TrM G M z u L) (ha : At L fr (ab Q A)) (h1 : 1 ≤ A.length) (hQ : Q.length < 4) (hp : s ≤ p) (hw : p < G w) (hG : G w < 2 ^ 31) : f_TR_writeBranch_15 rc G (f + 1) z (nI fr) (nI en) (nI Q.length) w (nI s) (nI p) (nI row) (nI 16) M = some (nI (p + 1 - s), sl M w p (tv A).toInt64) := by
  have h16 : (16 : Int32) ≤ nI 16 := Int32.le_refl _
  have hr := row_at h ha (hdk_at h1)
  rw [Nat.add_zero] at hr
  rw [f_TR_writeBranch_15, if_pos h16, h.1.1.1, ends_at h ha h1 (by omega), Option.bind_some]
  unfold tv
  by_cases e : hdk A = []
  · rw [if_pos e, if_pos e, if_neg (by decide), h.1.1.2.2.1, h.1.2.1.2.1, ix_nI hr.2.2.1 (by decide), Option.bind_some, ix_nI hw hG, Option.bind_some, hr.2.1]
    simp only [st]
    rw [nI_1, nI_sub' (by omega)]
  · rw [if_neg e, if_neg e, if_pos rfl, ix_nI hw hG, Option.bind_some]
    simp only [st]
    rw [nI_1, nI_sub' (by omega)]
    rfl
theorem wb_step {rc : Nat → Int32 → Int32 → Int32 → Nat → Int32 → Mm → Option (Int32 × Mm)} {M M1 : Mm} {Q : List Nat} {A : List Ent} {fr en w s p row f c n r : Nat} (h : TrM G M z u L) (ha : At L row (ab Q (restK A c (n + 1)))) (he : row + (restK A c (n + 1)).length = en) (hc : c + n + 1 = 16) (hw : p < G w) (hG : G w < 2 ^ 31) (hrc : rc z (nI row) (nI (row + (sub c A).length)) (nI (Q.length + 1)) w (nI (p + 1)) M = some (nI r, M1)) : f_TR_writeBranch_15 rc G (f + 1) z (nI fr) (nI en) (nI Q.length) w (nI s) (nI p) (nI row) (nI c) M = f_TR_writeBranch_15 rc G f z (nI fr) (nI en) (nI Q.length) w (nI s) (nI (p + (1 + r))) (nI (row + (sub c A).length)) (nI (c + 1)) (sl M1 w p (nI r).toInt64) := by
  have h16 : ¬ (16 : Int32) ≤ nI c := nI_ge (show c < 16 by omega) (by decide)
  have hend := child_end h ha hc
  rw [he] at hend
  rw [f_TR_writeBranch_15, if_neg h16, h.1.1.1, hend, Option.bind_some, nI_1, nI_1, hrc, Option.bind_some, ix_nI hw hG, Option.bind_some]
  simp only [st]
  rw [show (1 : Int32) + nI r = nI (1 + r) from nI_add 1 r, nI_add, nI_1]
theorem wb_loop {rc : Nat → Int32 → Int32 → Int32 → Nat → Int32 → Mm → Option (Int32 × Mm)} {Q : List Nat} {A : List Ent} {fr en w s : Nat} (hrc : RcOK G z u L rc (Q.length + 1)) (hA : Srt A) (ha : At L fr (ab Q A)) (h1 : 1 ≤ A.length) (hQ : Q.length < 4) (hw : ∀ j, Q.length + 1 ≤ j → j < 4 → w ≠ u (9 + j)) (hG : G w < 2 ^ 31) : ∀ (n c p row f : Nat) (M : Mm), c + n = 16 → TrM G M z u L → At L row (ab Q (restK A c n)) → row + (restK A c n).length = en → s ≤ p → p + ((List.range' c n).flatMap (cwd dg A)).length < G w → ∃ M2, f_TR_writeBranch_15 rc G (n + f + 1) z (nI fr) (nI en) (nI Q.length) w (nI s) (nI p) (nI row) (nI c) M = some (nI (p + ((List.range' c n).flatMap (cwd dg A)).length + 1 - s), M2) ∧ WrS u M M2 (Q.length + 1) w p ((List.range' c n).flatMap (cwd dg A) ++ [(tv A).toInt64]) := by
  intro n
  induction n with
  | zero =>
    intro c p row f M hc h ha2 he hs hp
    have hc : c = 16 := by omega
    subst hc
    refine ⟨_, ?_, WrS.one⟩
    exact wb_stop h ha h1 hQ hs hp hG
  | succ n ih =>
    intro c p row f M hc h ha2 he hs hp
    have hk := ha2
    rw [restK_succ, ab_app] at hk
    obtain ⟨k1, k2⟩ := at_app hk
    rw [ab_kid] at k1
    rw [ab_len, kid_len] at k2
    rw [List.range'_succ, List.flatMap_cons] at hp ⊢
    have hcl : (cwd dg A c).length = 1 + (refW dg (sub c A)).length := by unfold cwd; rw [List.length_cons]; omega
    rw [List.length_append, hcl] at hp
    obtain ⟨M1, e1, w1⟩ := hrc (Q ++ [c]) (sub c A) row w (p + 1) M (by simp) h k1 (srt_sub hA c) hw (by omega) hG
    have t1 := (h.mv (M2 := sl M1 w p (nI (refW dg (sub c A)).length).toInt64) w1.1 w1.2.1)
    have hlen : (restK A c (n + 1)).length = (sub c A).length + (restK A (c + 1) n).length := by rw [restK_succ, List.length_append, kid_len]
    obtain ⟨M2, e2, w2⟩ := ih (c + 1) (p + (1 + (refW dg (sub c A)).length)) (row + (sub c A).length) f _ (by omega) t1 k2 (by omega) (by omega) (by omega)
    refine ⟨M2, ?_, ?_⟩
    · rw [show n + 1 + f + 1 = (n + f + 1) + 1 by omega, wb_step h ha2 he (by omega) (by omega) hG e1, e2, List.length_append, hcl]
      congr 3
      omega
    · have w3 : WrS u M (sl M1 w p (nI (refW dg (sub c A)).length).toInt64) (Q.length + 1) w p (cwd dg A c) := WrS.cons w1
      rw [List.append_assoc]
      refine w3.app ?_
      rw [hcl]
      exact w2
theorem wb_eq {rc : Nat → Int32 → Int32 → Int32 → Nat → Int32 → Mm → Option (Int32 × Mm)} {M : Mm} {Q : List Nat} {A : List Ent} {fr w s : Nat} (h : TrM G M z u L) (hrc : RcOK G z u L rc (Q.length + 1)) (hA : Srt A) (ha : At L fr (ab Q A)) (h1 : 1 ≤ A.length) (hQ : Q.length < 4) (hw : ∀ j, Q.length + 1 ≤ j → j < 4 → w ≠ u (9 + j)) (hG : G w < 2 ^ 31) (hs : s + (encW dg A).length ≤ G w) : ∃ M2, f_TR_writeBranch rc G z (nI fr) (nI (fr + A.length)) (nI Q.length) w (nI s) M = some (nI (encW dg A).length, M2) ∧ WrS u M M2 (Q.length + 1) w s (encW dg A) := by
  have hl : (encW dg A).length = ((List.range' 0 16).flatMap (cwd dg A)).length + 1 := by unfold encW; rw [List.length_append, List.range_eq_range']; rfl
  unfold f_TR_writeBranch
  rw [first_child h ha hA h1 (by omega), Option.bind_some]
  have hsd := SDK hA
  have ha2 := ha
  rw [hsd, ab_app] at ha2
  have k2 := (at_app ha2).2
  rw [ab_len] at k2
  have hen : fr + (own A).length + (restK A 0 16).length = fr + A.length := by
    have := congrArg List.length hsd
    rw [List.length_append] at this
    omega
  obtain ⟨M2, e2, w2⟩ := wb_loop hrc hA ha h1 hQ hw hG 16 0 s (fr + (own A).length) 4079 M rfl h k2 hen (Nat.le_refl _) (by omega)
  refine ⟨M2, ?_, ?_⟩
  · rw [nI_0] at e2
    rw [show FU = 16 + 4079 + 1 from rfl, e2, hl]
    congr 3
    omega
  · unfold encW
    rw [List.range_eq_range']
    exact w2
theorem bd_eq {rc : Nat → Int32 → Int32 → Int32 → Nat → Int32 → Mm → Option (Int32 × Mm)} {M : Mm} {Q : List Nat} {A : List Ent} {fr : Nat} (h : TrM G M z u L) (hrc : RcOK G z u L rc (Q.length + 1)) (hA : Srt A) (ha : At L fr (ab Q A)) (h1 : 1 ≤ A.length) (hQ : Q.length < 4) : ∃ M2, f_TR_branchDigest rc G z (nI fr) (nI (fr + A.length)) (nI Q.length) M = some (dg A, M2) ∧ M2.1 = M.1 ∧ M2.2.2 = M.2.2 ∧ (∀ c, (∀ j, Q.length ≤ j → j < 4 → c ≠ u (9 + j)) → M2.2.1 c = M.2.1 c) := by
  have hd : ∀ j, Q.length + 1 ≤ j → j < 4 → u (9 + Q.length) ≠ u (9 + j) := fun j a b e => by
    have := h.1.2.2.1 _ _ (by omega) (by omega) e
    omega
  have hg := h.1.2.1.2.2.2.2.2.2.2.2 Q.length hQ
  have hlen := enc_len dg A
  obtain ⟨M2, e2, w2⟩ := wb_eq (w := u (9 + Q.length)) (s := 0) h hrc hA ha h1 hQ hd (by omega) (by omega)
  have hlt : nI Q.length < (4 : Int32) := nI_lt hQ (by decide)
  refine ⟨M2, ?_, w2.1, w2.2.1, fun c hc => w2.2.2.1 c (hc _ (Nat.le_refl _) hQ) (fun j a b => hc j (by omega) b)⟩
  unfold f_TR_branchDigest
  rw [nI_0] at e2
  rw [if_pos hlt, h.1.1.2.2.2.2.2.2.2.2.1, h.1.2.1.2.2.2.2.2.2.2.1, ix_nI hQ (by decide), Option.bind_some, h.1.1.2.2.2.2.2.2.2.2.2 _ hQ, e2, Option.bind_some]
  have := digest_eq (G := G) (M := M2) (w := u (9 + Q.length)) (s := 0) (ws := encW dg A) (by omega) (by omega) (by omega) (fun i hi => by
    show M2.2.1 (u (9 + Q.length)) (0 + i) = _
    rw [w2.2.2.2, wr_at hi])
  rw [nI_0] at this
  simp only [this, Option.bind_some]
  rw [← dg_eq (srt_len hA)]
end CR
