/-! The list of a trie's branches, whole; there are fewer branches than rows. -/
theorem cl_drop0 : ∀ (a b : List Nat), cl (a.drop (cl a b)) (b.drop (cl a b)) = 0 := by
  intro a
  induction a with
  | nil => intro b; simp [cl]
  | cons x a ih =>
    intro b
    cases b with
    | nil => simp [cl]
    | cons y b =>
      by_cases e : x = y
      · subst e
        have : cl (x :: a) (x :: b) = cl a b + 1 := by rw [cl, if_pos rfl]
        rw [this, List.drop_succ_cons, List.drop_succ_cons]
        exact ih b
      · have : cl (x :: a) (y :: b) = 0 := by rw [cl, if_neg e]
        rw [this, List.drop_zero, List.drop_zero]
        exact this
theorem hdk_strip {A : List Ent} {k : Nat} : hdk (strip k A) = (hdk A).drop k := by
  cases A with
  | nil => simp [hdk, strip]
  | cons a r => rfl
theorem ltk_strip {A : List Ent} {k : Nat} : ltk (strip k A) = (ltk A).drop k := by
  unfold ltk strip
  rw [List.getLast?_map]
  cases A.getLast? with
  | none => simp
  | some e => rfl
theorem cm_brA {A : List Ent} : cm (brA A) = 0 := by
  unfold brA cm
  rw [hdk_strip, ltk_strip]
  exact cl_drop0 _ _
theorem srt_brA {A : List Ent} (h : Srt A) : Srt (brA A) := srt_strip' h
theorem brA_len {A : List Ent} : (brA A).length = A.length := strip_ln
theorem two_le {α : Type} {l : List α} {a b : α} (ha : a ∈ l) (hb : b ∈ l) (h : a ≠ b) : 2 ≤ l.length := by
  cases l with
  | nil => cases ha
  | cons x l =>
    cases l with
    | nil => rw [List.mem_singleton.mp ha, List.mem_singleton.mp hb] at h; exact absurd rfl h
    | cons y l => simp
def nes (A : List Ent) (c n : Nat) : Nat := ((List.range' c n).filter (fun c => decide (1 ≤ (sub c A).length))).length
theorem nes_succ {A : List Ent} {c n : Nat} : nes A c (n + 1) = (if 1 ≤ (sub c A).length then 1 else 0) + nes A (c + 1) n := by
  unfold nes
  rw [List.range'_succ, List.filter_cons]
  by_cases h : 1 ≤ (sub c A).length
  · rw [if_pos (by simpa using h), if_pos h, List.length_cons]; omega
  · rw [if_neg (by simpa using h), if_neg h]; omega
theorem lsk_len {A : List Ent} {g : Nat → Nat → Nat → List Rec} (hg : ∀ c row i, (g c row i).length ≤ (sub c A).length - 1) : ∀ (n c row i : Nat), (lsk g A n c row i).length + nes A c n ≤ (restK A c n).length := by
  intro n
  induction n with
  | zero => intro c row i; simp [lsk, nes]
  | succ n ih =>
    intro c row i
    have h1 := ih (c + 1) (row + (sub c A).length) (i + (g c row i).length)
    have h2 := hg c row i
    rw [lsk, List.length_append, nes_succ, restK_succ, List.length_append, kid_len]
    by_cases h : 1 ≤ (sub c A).length
    · rw [if_pos h]; omega
    · rw [if_neg h]; omega
theorem in_sub {A : List Ent} {e : Ent} {c : Nat} {q : List Nat} (he : e ∈ A) (h : e.1 = c :: q) : (q, e.2) ∈ sub c A := by
  unfold sub rl
  rw [List.mem_filterMap]
  exact ⟨e, he, by rw [if_pos (by rw [h]; exact one_pre.mpr rfl), h]; rfl⟩
theorem nes_mem {A : List Ent} {e : Ent} {c : Nat} {q : List Nat} (hc : c < 16) (he : e ∈ A) (h : e.1 = c :: q) : c ∈ (List.range' 0 16).filter (fun c => decide (1 ≤ (sub c A).length)) := by
  rw [List.mem_filter]
  refine ⟨by rw [List.mem_range'_1]; omega, ?_⟩
  exact decide_eq_true (List.length_pos_of_mem (in_sub he h))
/-- a branch parts its rows -/
theorem parts {A : List Ent} (h : Srt A) (h2 : 2 ≤ A.length) (h0 : cm A = 0) : 2 ≤ (own A).length + nes A 0 16 := by
  have hne : A ≠ [] := fun q => by rw [q] at h2; simp at h2
  obtain ⟨e, he, e1, -⟩ := hdk_mem (A := A) (by omega)
  obtain ⟨f, hf, f1⟩ := ltk_mem (A := A) (by omega)
  have hlx := first_last h h2
  rw [own_eq h]
  have flt : ∀ x q, ltk A = x :: q → x ∈ (List.range' 0 16).filter (fun c => decide (1 ≤ (sub c A).length)) := fun x q hx => nes_mem ((h.1 f hf).2 x (by rw [← f1, hx]; exact List.mem_cons_self)) hf (f1.symm.trans hx)
  cases hl : ltk A with
  | nil =>
    rw [hl] at hlx
    cases hh : hdk A with
    | nil => rw [hh] at hlx; exact absurd hlx (fun q => q)
    | cons x q => rw [hh] at hlx; exact absurd hlx (fun q => q)
  | cons y t =>
    have m1 := flt y t hl
    by_cases c : hdk A = []
    · rw [if_pos ⟨c, hne⟩]
      have := List.length_pos_of_mem m1
      unfold nes
      simp only [List.length_singleton]
      omega
    · rw [if_neg (fun q => c q.1)]
      cases hh : hdk A with
      | nil => exact absurd hh c
      | cons x q =>
        have hxy : x ≠ y := fun e => by
          unfold cm at h0
          rw [hh, hl, e, cl, if_pos rfl] at h0
          omega
        have m2 : x ∈ (List.range' 0 16).filter (fun c => decide (1 ≤ (sub c A).length)) := nes_mem ((h.1 e he).2 x (by rw [← e1, hh]; exact List.mem_cons_self)) he (e1.symm.trans hh)
        have := two_le m2 m1 hxy
        unfold nes
        omega
theorem lsr_len : ∀ (n : Nat) (P : List Nat) (A : List Ent) (fr i : Nat) (par : Int32), Srt A → (lsr n P A fr i par).length ≤ A.length - 1 := by
  intro n
  induction n with
  | zero => intro P A fr i par _; simp [lsr]
  | succ n ih =>
    intro P A fr i par hA
    rw [lsr]
    by_cases h : A.length ≤ 1
    · rw [if_pos h]; simp
    · rw [if_neg h, List.length_cons]
      have hs := srt_brA hA
      have k1 := lsk_len (A := brA A) (g := fun c row j => lsr n (brQ P A ++ [c]) (sub c (brA A)) row j (nI i)) (fun c row j => ih _ _ _ _ _ (srt_sub hs c)) 16 0 (fr + (own (brA A)).length) (i + 1)
      have k2 := parts hs (by rw [brA_len]; omega) cm_brA
      have k3 := congrArg List.length (SDK hs)
      rw [List.length_append, brA_len] at k3
      omega
section CL2
variable {G : Nat → Nat} {z : Nat} {u : Nat → Nat} {L : List Ent}
theorem LsS.leaf {M : Mm} (h : TrS G M z u) {lv ex : Nat} {rs : List Rec} (hs : LsS M z u lv ex rs) : LsS (si M z 1 (nI lv + 1)) z u (lv + 1) ex rs := by
  obtain ⟨h1, h2, h3, h4⟩ := hs
  have nz : ∀ i, i < 13 → u i ≠ z := fun i hi e => h.2.2.2 i hi e.symm
  refine ⟨by rw [gi_si, if_pos ⟨rfl, rfl⟩, nI_1], by rw [gi_si, if_neg (by simp)]; exact h2, by rw [gi_si, if_neg (by simp)]; exact h3, fun i r hr => ?_⟩
  rw [gi_si, if_neg (fun q => nz 4 (by omega) q.1), gi_si, if_neg (fun q => nz 5 (by omega) q.1), gi_si, if_neg (fun q => nz 6 (by omega) q.1), gi_si, if_neg (fun q => nz 3 (by omega) q.1)]
  exact h4 i r hr
theorem LsS.ext {M : Mm} (h : TrS G M z u) {lv ex : Nat} {rs : List Rec} (hs : LsS M z u lv ex rs) : LsS (si M z 2 (nI ex + 1)) z u lv (ex + 1) rs := by
  obtain ⟨h1, h2, h3, h4⟩ := hs
  have nz : ∀ i, i < 13 → u i ≠ z := fun i hi e => h.2.2.2 i hi e.symm
  refine ⟨by rw [gi_si, if_neg (by simp)]; exact h1, by rw [gi_si, if_pos ⟨rfl, rfl⟩, nI_1], by rw [gi_si, if_neg (by simp)]; exact h3, fun i r hr => ?_⟩
  rw [gi_si, if_neg (fun q => nz 4 (by omega) q.1), gi_si, if_neg (fun q => nz 5 (by omega) q.1), gi_si, if_neg (fun q => nz 6 (by omega) q.1), gi_si, if_neg (fun q => nz 3 (by omega) q.1)]
  exact h4 i r hr
theorem lp_eq {rc : Nat → Int32 → Int32 → Int32 → Int32 → Mm → Option Mm} {d k : Nat} (hk : k ≤ 4) (hrc : ∀ k', k < k' → k' ≤ 4 → LcOK G z u L rc d k') : LcOK G z u L (f_TR_listPart rc G) (d + 1) k := by
  intro P A fr lv ex par rs M hP h ha hA hs hb
  have h16 := h.2.1.1
  by_cases h0 : A.length = 0
  · have e1 : lsr (d + 1) P A fr rs.length par = [] := by rw [lsr, if_pos (by omega)]
    have e2 : pw wl (d + 1) A = 0 := by rw [pw, if_pos (by omega)]; unfold wl; rw [if_neg (by omega)]
    have e3 : pw we (d + 1) A = 0 := by rw [pw, if_pos (by omega)]; unfold we; rw [if_neg (by omega)]
    rw [e1, e2, e3, h0, Nat.add_zero, List.append_nil]
    unfold f_TR_listPart
    rw [if_pos rfl]
    exact ⟨M, rfl, Only.rf, hs⟩
  have h1 : 1 ≤ A.length := by omega
  have r1 := row_at h ha (hdk_at h1)
  rw [Nat.add_zero] at r1
  have hen : fr + A.length ≤ 16 := by
    obtain ⟨v, hv⟩ := ltk_at h1
    have := (row_at h ha hv).2.2.1
    omega
  have c1 : ¬ nI fr = nI (fr + A.length) := fun q => by have := (nI_eq (by omega) (by omega)).mp q; omega
  have c2 : nI (fr + A.length) - nI fr = nI A.length := by rw [nI_sub' (by omega), Nat.add_sub_cancel_left]
  subst hP
  unfold f_TR_listPart
  rw [if_neg c1, c2, h.1.1.1, h.1.1.2.1, h.1.2.1.1]
  by_cases hone : A.length = 1
  · have e1 : lsr (d + 1) P A fr rs.length par = [] := by rw [lsr, if_pos (by omega)]
    have e2 : pw wl (d + 1) A = 1 := by rw [pw, if_pos (by omega)]; unfold wl; rw [if_pos hone]
    have e3 : pw we (d + 1) A = 0 := by rw [pw, if_pos (by omega)]; unfold we; rw [if_neg (by omega)]
    rw [e1, e2, e3, if_pos (by rw [hone]; rfl), hs.1, List.append_nil]
    exact ⟨_, rfl, Only.rf.si (by simp [lcs]), hs.leaf h.1⟩
  · have h2 : 2 ≤ A.length := by omega
    have hcm := part_cm h.2.2 ha hA h2
    have cne : ¬ nI A.length = 1 := fun q => by have := (nI_eq (b := 1) (by omega) (by decide)).mp q; omega
    have hab : At L fr (ab (brQ P A) (brA A)) := at_branch hA ha
    have hbl : (brQ P A).length = P.length + cm A := brl_len hA h1
    have e1 : lsr (d + 1) P A fr rs.length par = (brQ P A, brA A, fr, par) :: lsk (fun c row j => lsr d (brQ P A ++ [c]) (sub c (brA A)) row j (nI rs.length)) (brA A) 16 0 (fr + (own (brA A)).length) (rs.length + 1) := by rw [lsr, if_neg (by omega)]
    have e2 : pw wl (d + 1) A = ((List.range' 0 16).map (fun c => pw wl d (sub c (brA A)))).sum := by rw [pw, if_neg (by omega)]; unfold wl; rw [if_neg (by omega), Nat.zero_add]
    rw [e1, List.length_cons] at hb
    rw [e1, e2]
    have hl2 : fr + A.length = fr + (brA A).length := by rw [brA_len]
    rw [if_neg cne, ix_nI r1.2.2.1 (by decide), Option.bind_some, show nI (fr + A.length) - 1 = nI (fr + A.length - 1) from nI_sub' (b := 1) (by omega), ix_nI (by omega) (by decide), Option.bind_some, part_common h ha h1, Option.bind_some]
    by_cases hc : cm A = 0
    · have e3 : pw we (d + 1) A = ((List.range' 0 16).map (fun c => pw we d (sub c (brA A)))).sum := by rw [pw, if_neg (by omega)]; unfold we; rw [if_neg (by omega), Nat.zero_add]
      obtain ⟨M2, q1, q2, q3⟩ := lb_eq (par := par) (hrc ((brQ P A).length + 1) (by omega) (by omega)) h (srt_brA hA) hab (by rw [brA_len]; omega) (by omega) hs (by omega)
      rw [e3, if_pos (by rw [hc]; exact Int32.le_refl _), ← hbl, hl2, q1, Option.bind_some]
      exact ⟨M2, rfl, q2, q3⟩
    · have e3 : ex + pw we (d + 1) A = (ex + 1) + ((List.range' 0 16).map (fun c => pw we d (sub c (brA A)))).sum := by rw [pw, if_neg (by omega)]; rw [show we A = 1 by unfold we; rw [if_pos ⟨h2, by omega⟩]]; omega
      have o9 : Only M (si M z 2 (nI ex + 1)) (lcs z u) := Only.rf.si (by simp [lcs])
      obtain ⟨M2, q1, q2, q3⟩ := lb_eq (par := par) (hrc ((brQ P A).length + 1) (by omega) (by omega)) (h.only o9) (srt_brA hA) hab (by rw [brA_len]; omega) (by omega) (hs.ext h.1) (by omega)
      rw [e3, if_neg (nI_ge (by omega) (by omega)), hs.2.1]
      simp only [st]
      rw [← hbl, hl2, q1, Option.bind_some]
      exact ⟨M2, rfl, o9.tr q2, q3⟩
theorem FL_eq : ∀ (d k : Nat), k ≤ 4 → 5 ≤ k + d → LcOK G z u L (F_TR_listPart G d) d k := by
  intro d
  induction d with
  | zero => intro k h1 h2; omega
  | succ d ih =>
    intro k h1 h2
    have := lp_eq (G := G) (z := z) (u := u) (L := L) (rc := F_TR_listPart G d) (d := d) h1 (fun k' a b => ih k' b (by omega))
    intro P A fr lv ex par rs M
    exact this P A fr lv ex par rs M
/-- the branches of a map -/
def brs (L : List Ent) : List Rec := lsr RD [] L 0 0 (-1)
theorem brs_len (h : Srt L) (h16 : L.length ≤ 16) : (brs L).length ≤ 15 := by
  have := lsr_len RD [] L 0 0 (-1) h
  unfold brs
  omega
/-- a trie and its list -/
def TrI (G : Nat → Nat) (M : Mm) (z : Nat) (u : Nat → Nat) (L : List Ent) : Prop := TrM G M z u L ∧ LsS M z u (pw wl RD L) (pw we RD L) (brs L)
theorem list_eq {M : Mm} (h : TrM G M z u L) : ∃ M2, f_TR_list G z M = some M2 ∧ Only M M2 (lcs z u) ∧ TrI G M2 z u L := by
  have o : Only M (si (si (si M z 1 0) z 2 0) z 3 0) (lcs z u) := ((Only.rf.si (by simp [lcs])).si (by simp [lcs])).si (by simp [lcs])
  have hm := h.only o
  have hs : LsS (si (si (si M z 1 0) z 2 0) z 3 0) z u 0 0 [] := by
    refine ⟨?_, ?_, ?_, fun i r hr => by simp at hr⟩
    · rw [gi_si, if_neg (by simp), gi_si, if_neg (by simp), gi_si, if_pos ⟨rfl, rfl⟩, nI_0]
    · rw [gi_si, if_neg (by simp), gi_si, if_pos ⟨rfl, rfl⟩, nI_0]
    · rw [gi_si, if_pos ⟨rfl, rfl⟩]; rfl
  have hb := brs_len h.2.2 h.2.1.1
  obtain ⟨M2, e, o2, s2⟩ := FL_eq (G := G) (z := z) (u := u) (L := L) RD 0 (by omega) (by decide) [] L 0 0 0 (-1) [] _ rfl hm at_all h.2.2 hs (by rw [List.length_nil, Nat.zero_add]; exact hb)
  rw [nI_0, Nat.zero_add] at e
  rw [Nat.zero_add, Nat.zero_add, List.nil_append] at s2
  refine ⟨M2, ?_, o.tr o2, h.only (o.tr o2), s2⟩
  unfold f_TR_list
  simp only [st, gr_si, h.1.1.1]
  have hr : gi (si (si (si M z 1 0) z 2 0) z 3 0) (u 0) 2 = nI L.length := hm.2.1.2.2.2.1
  rw [hr, e]
  rfl
end CL2
