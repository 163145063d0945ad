/-! The list of a trie's branches. -/
abbrev Rec : Type := List Nat × List Ent × Nat × Int32
def lsk (g : Nat → Nat → Nat → List Rec) (A : List Ent) : Nat → Nat → Nat → Nat → List Rec
  | 0, _, _, _ => []
  | n + 1, c, row, i => g c row i ++ lsk g A n (c + 1) (row + (sub c A).length) (i + (g c row i).length)
def brQ (P : List Nat) (A : List Ent) : List Nat := P ++ (hdk A).take (cm A)
def brA (A : List Ent) : List Ent := strip (cm A) A
/-- the branches of a part, in the class's order: path, relative map, first row, the one above -/
def lsr : Nat → List Nat → List Ent → Nat → Nat → Int32 → List Rec
  | 0, _, _, _, _, _ => []
  | n + 1, P, A, fr, i, par => if A.length ≤ 1 then [] else (brQ P A, brA A, fr, par) :: lsk (fun c row j => lsr n (brQ P A ++ [c]) (sub c (brA A)) row j (nI i)) (brA A) 16 0 (fr + (own (brA A)).length) (i + 1)
/-- a weight summed over all parts -/
def pw (w : List Ent → Nat) : Nat → List Ent → Nat
  | 0, _ => 0
  | n + 1, A => w A + if A.length ≤ 1 then 0 else ((List.range' 0 16).map (fun c => pw w n (sub c (brA A)))).sum
def wl (A : List Ent) : Nat := if A.length = 1 then 1 else 0
def we (A : List Ent) : Nat := if 2 ≤ A.length ∧ 0 < cm A then 1 else 0
def LsS (M : Mm) (z : Nat) (u : Nat → Nat) (lv ex : Nat) (rs : List Rec) : Prop := gi M z 1 = nI lv ∧ gi M z 2 = nI ex ∧ gi M z 3 = nI rs.length ∧ ∀ (i : Nat) (r : Rec), rs[i]? = some r → gi M (u 4) i = nI r.2.2.1 ∧ gi M (u 5) i = nI (r.2.2.1 + r.2.1.length) ∧ gi M (u 6) i = nI r.1.length ∧ gi M (u 3) i = r.2.2.2
section CL
variable {G : Nat → Nat} {z : Nat} {u : Nat → Nat} {L : List Ent}
def lcs (z : Nat) (u : Nat → Nat) : List Nat := [z, u 3, u 4, u 5, u 6]
theorem Only.tr {M M1 M2 : Mm} {cs : List Nat} (h : Only M M1 cs) (g : Only M1 M2 cs) : Only M M2 cs := ⟨g.1.trans h.1, fun c hc => (g.2 c hc).trans (h.2 c hc)⟩
theorem not_lcs {M : Mm} (h : TrS G M z u) {i : Nat} (hi : i < 3) : u i ∉ lcs z u := by
  intro q
  unfold lcs at q
  simp only [List.mem_cons, List.not_mem_nil, or_false] at q
  rcases q with q | q | q | q | q
  · exact h.2.2.2 i (by omega) q.symm
  · have := h.2.2.1 _ _ (by omega) (by omega) q; omega
  · have := h.2.2.1 _ _ (by omega) (by omega) q; omega
  · have := h.2.2.1 _ _ (by omega) (by omega) q; omega
  · have := h.2.2.1 _ _ (by omega) (by omega) q; omega
theorem TrS.ref {M M2 : Mm} (h : TrS G M z u) (e : M2.2.2 = M.2.2) : TrS G M2 z u := by
  unfold TrS gr at *
  rw [e]
  exact h
theorem RepM.cells {M M2 : Mm} {a A V : Nat} {es : List Ent} (h : RepM G M a es) (e0 : gr M a 0 = A) (e1 : gr M a 1 = V) (e : M2.2.2 = M.2.2) (c0 : M2.1 a = M.1 a) (c1 : M2.1 A = M.1 A) (c2 : M2.1 V = M.1 V) : RepM G M2 a es := by
  subst e0
  subst e1
  unfold RepM Rows gi gr at *
  rw [e, c0, c1, c2]
  exact h
theorem TrM.only {M M2 : Mm} (h : TrM G M z u L) (ho : Only M M2 (lcs z u)) : TrM G M2 z u L := by
  have e : M2.2.2 = M.2.2 := by rw [ho.1]
  exact ⟨h.1.ref e, h.2.1.cells h.1.1.2.1 h.1.1.2.2.1 e (ho.2 _ (not_lcs h.1 (by omega))) (ho.2 _ (not_lcs h.1 (by omega))) (ho.2 _ (not_lcs h.1 (by omega))), h.2.2⟩
/-- what is asked of the recursion -/
def LcOK (G : Nat → Nat) (z : Nat) (u : Nat → Nat) (L : List Ent) (rc : Nat → Int32 → Int32 → Int32 → Int32 → Mm → Option Mm) (d k : Nat) : Prop := ∀ (P : List Nat) (A : List Ent) (fr lv ex : Nat) (par : Int32) (rs : List Rec) (M : Mm), P.length = k → TrM G M z u L → At L fr (ab P A) → Srt A → LsS M z u lv ex rs → rs.length + (lsr d P A fr rs.length par).length ≤ 15 → ∃ M2, rc z (nI fr) (nI (fr + A.length)) (nI k) par M = some M2 ∧ Only M M2 (lcs z u) ∧ LsS M2 z u (lv + pw wl d A) (ex + pw we d A) (rs ++ lsr d P A fr rs.length par)
theorem ll_step {rc : Nat → Int32 → Int32 → Int32 → Int32 → Mm → Option Mm} {M M1 : Mm} {Q : List Nat} {A : List Ent} {en row f c n : Nat} {bi : Int32} (h : TrM G M z u L) (ha : At L row (ab Q (restK A c (n + 1)))) (he : row + (restK A c (n + 1)).length = en) (hc : c + n + 1 = 16) (hrc : rc z (nI row) (nI (row + (sub c A).length)) (nI (Q.length + 1)) bi M = some M1) : f_TR_listBranch_75 rc G (f + 1) z (nI en) (nI Q.length) bi (nI row) (nI c) M = f_TR_listBranch_75 rc G f z (nI en) (nI Q.length) bi (nI (row + (sub c A).length)) (nI (c + 1)) M1 := by
  have h16 : ¬ (16 : Int32) ≤ nI c := nI_ge (show c < 16 by omega) (by decide)
  have hend := child_end h ha hc
  rw [he] at hend
  rw [f_TR_listBranch_75, if_neg h16, h.1.1.1, hend, Option.bind_some, nI_1, hrc, Option.bind_some, nI_1]
theorem ll_loop {rc : Nat → Int32 → Int32 → Int32 → Int32 → Mm → Option Mm} {d : Nat} {Q : List Nat} {A : List Ent} {en i0 : Nat} (hrc : LcOK G z u L rc d (Q.length + 1)) (hA : Srt A) : ∀ (n c row f lv ex : Nat) (rs : List Rec) (M : Mm), c + n = 16 → TrM G M z u L → At L row (ab Q (restK A c n)) → row + (restK A c n).length = en → LsS M z u lv ex rs → rs.length + (lsk (fun c row j => lsr d (Q ++ [c]) (sub c A) row j (nI i0)) A n c row rs.length).length ≤ 15 → ∃ M2, f_TR_listBranch_75 rc G (n + f + 1) z (nI en) (nI Q.length) (nI i0) (nI row) (nI c) M = some M2 ∧ Only M M2 (lcs z u) ∧ LsS M2 z u (lv + ((List.range' c n).map (fun c => pw wl d (sub c A))).sum) (ex + ((List.range' c n).map (fun c => pw we d (sub c A))).sum) (rs ++ lsk (fun c row j => lsr d (Q ++ [c]) (sub c A) row j (nI i0)) A n c row rs.length) := by
  intro n
  induction n with
  | zero =>
    intro c row f lv ex rs M hc h ha he hs hb
    have hc : c = 16 := by omega
    subst hc
    have h16 : (16 : Int32) ≤ nI 16 := Int32.le_refl _
    refine ⟨M, ?_, Only.rf, ?_⟩
    · rw [f_TR_listBranch_75, if_pos h16]
    · simp [lsk]
      exact hs
  | succ n ih =>
    intro c row f lv ex rs M hc h ha he hs hb
    have hk := ha
    rw [restK_succ, ab_app] at hk
    obtain ⟨k1, k2⟩ := at_app hk
    rw [ab_kid] at k1
    rw [ab_len, kid_len] at k2
    rw [lsk, List.length_append] at hb
    obtain ⟨M1, e1, o1, s1⟩ := hrc (Q ++ [c]) (sub c A) row lv ex (nI i0) rs M (by simp) h k1 (srt_sub hA c) hs (by omega)
    have hlen : (restK A c (n + 1)).length = (sub c A).length + (restK A (c + 1) n).length := by rw [restK_succ, List.length_append, kid_len]
    obtain ⟨M2, e2, o2, s2⟩ := ih (c + 1) (row + (sub c A).length) f _ _ _ M1 (by omega) (h.only o1) k2 (by omega) s1 (by rw [List.length_append]; omega)
    refine ⟨M2, ?_, o1.tr o2, ?_⟩
    · rw [show n + 1 + f + 1 = (n + f + 1) + 1 by omega, ll_step h ha he (by omega) e1, e2]
    · rw [List.length_append, List.append_assoc] at s2
      rw [lsk, List.range'_succ, List.map_cons, List.sum_cons, List.map_cons, List.sum_cons, ← Nat.add_assoc, ← Nat.add_assoc]
      exact s2
/-- a branch is entered into the list -/
def lput (M : Mm) (z : Nat) (u : Nat → Nat) (j fr en k : Nat) (par : Int32) : Mm := si (si (si (si (si M z 3 (nI j + 1)) (u 4) j (nI fr)) (u 5) j (nI en)) (u 6) j (nI k)) (u 3) j par
theorem lput_only {M : Mm} {j fr en k : Nat} {par : Int32} : Only M (lput M z u j fr en k par) (lcs z u) := ((((Only.rf.si (by simp [lcs])).si (by simp [lcs])).si (by simp [lcs])).si (by simp [lcs])).si (by simp [lcs])
theorem lput_s {M : Mm} (h : TrS G M z u) {lv ex fr : Nat} {par : Int32} {rs : List Rec} {Q : List Nat} {A : List Ent} (hs : LsS M z u lv ex rs) : LsS (lput M z u rs.length fr (fr + A.length) Q.length par) z u lv ex (rs ++ [(Q, A, fr, par)]) := by
  obtain ⟨h1, h2, h3, h4⟩ := hs
  have nz : ∀ i, i < 13 → z ≠ u i := h.2.2.2
  have nu : ∀ i j, i < 13 → j < 13 → i ≠ j → u i ≠ u j := fun i j a b c e => c (h.2.2.1 i j a b e)
  have gz : ∀ j, gi (lput M z u rs.length fr (fr + A.length) Q.length par) z j = if j = 3 then nI rs.length + 1 else gi M z j := fun j => by
    unfold lput
    rw [gi_si, if_neg (fun q => nz 3 (by omega) q.1), gi_si, if_neg (fun q => nz 6 (by omega) q.1), gi_si, if_neg (fun q => nz 5 (by omega) q.1), gi_si, if_neg (fun q => nz 4 (by omega) q.1), gi_si]
    by_cases c : j = 3
    · rw [if_pos ⟨rfl, c⟩, if_pos c]
    · rw [if_neg (fun q => c q.2), if_neg c]
  have g3 : ∀ j, gi (lput M z u rs.length fr (fr + A.length) Q.length par) (u 3) j = if j = rs.length then par else gi M (u 3) j := fun j => by
    unfold lput
    rw [gi_si]
    by_cases c : j = rs.length
    · rw [if_pos ⟨rfl, c⟩, if_pos c]
    · rw [if_neg (fun q => c q.2), if_neg c, gi_si, if_neg (fun q => nu 3 6 (by omega) (by omega) (by omega) q.1), gi_si, if_neg (fun q => nu 3 5 (by omega) (by omega) (by omega) q.1), gi_si, if_neg (fun q => nu 3 4 (by omega) (by omega) (by omega) q.1), gi_si, if_neg (fun q => nz 3 (by omega) q.1.symm)]
  have g6 : ∀ j, gi (lput M z u rs.length fr (fr + A.length) Q.length par) (u 6) j = if j = rs.length then nI Q.length else gi M (u 6) j := fun j => by
    unfold lput
    rw [gi_si, if_neg (fun q => nu 6 3 (by omega) (by omega) (by omega) q.1), gi_si]
    by_cases c : j = rs.length
    · rw [if_pos ⟨rfl, c⟩, if_pos c]
    · rw [if_neg (fun q => c q.2), if_neg c, gi_si, if_neg (fun q => nu 6 5 (by omega) (by omega) (by omega) q.1), gi_si, if_neg (fun q => nu 6 4 (by omega) (by omega) (by omega) q.1), gi_si, if_neg (fun q => nz 6 (by omega) q.1.symm)]
  have g5 : ∀ j, gi (lput M z u rs.length fr (fr + A.length) Q.length par) (u 5) j = if j = rs.length then nI (fr + A.length) else gi M (u 5) j := fun j => by
    unfold lput
    rw [gi_si, if_neg (fun q => nu 5 3 (by omega) (by omega) (by omega) q.1), gi_si, if_neg (fun q => nu 5 6 (by omega) (by omega) (by omega) q.1), gi_si]
    by_cases c : j = rs.length
    · rw [if_pos ⟨rfl, c⟩, if_pos c]
    · rw [if_neg (fun q => c q.2), if_neg c, gi_si, if_neg (fun q => nu 5 4 (by omega) (by omega) (by omega) q.1), gi_si, if_neg (fun q => nz 5 (by omega) q.1.symm)]
  have g4 : ∀ j, gi (lput M z u rs.length fr (fr + A.length) Q.length par) (u 4) j = if j = rs.length then nI fr else gi M (u 4) j := fun j => by
    unfold lput
    rw [gi_si, if_neg (fun q => nu 4 3 (by omega) (by omega) (by omega) q.1), gi_si, if_neg (fun q => nu 4 6 (by omega) (by omega) (by omega) q.1), gi_si, if_neg (fun q => nu 4 5 (by omega) (by omega) (by omega) q.1), gi_si]
    by_cases c : j = rs.length
    · rw [if_pos ⟨rfl, c⟩, if_pos c]
    · rw [if_neg (fun q => c q.2), if_neg c, gi_si, if_neg (fun q => nz 4 (by omega) q.1.symm)]
  refine ⟨by rw [gz, if_neg (by omega)]; exact h1, by rw [gz, if_neg (by omega)]; exact h2, by rw [gz, if_pos rfl, nI_1, List.length_append]; rfl, fun i r hr => ?_⟩
  rw [g3, g4, g5, g6]
  by_cases c : i = rs.length
  · subst c
    rw [List.getElem?_append_right (Nat.le_refl _), Nat.sub_self] at hr
    have : r = (Q, A, fr, par) := (Option.some.inj hr).symm
    subst this
    rw [if_pos rfl, if_pos rfl, if_pos rfl, if_pos rfl]
    exact ⟨rfl, rfl, rfl, rfl⟩
  · have hi : i < rs.length := by
      have := (List.getElem?_eq_some_iff.mp hr).1
      rw [List.length_append, List.length_singleton] at this
      omega
    rw [List.getElem?_append_left hi] at hr
    rw [if_neg c, if_neg c, if_neg c, if_neg c]
    exact h4 i r hr
theorem lb_eq {rc : Nat → Int32 → Int32 → Int32 → Int32 → Mm → Option Mm} {d : Nat} {Q : List Nat} {A : List Ent} {fr lv ex : Nat} {par : Int32} {rs : List Rec} {M : Mm} (hrc : LcOK G z u L rc d (Q.length + 1)) (h : TrM G M z u L) (hA : Srt A) (ha : At L fr (ab Q A)) (h1 : 1 ≤ A.length) (hQ : Q.length < 4) (hs : LsS M z u lv ex rs) (hb : rs.length + 1 + (lsk (fun c row j => lsr d (Q ++ [c]) (sub c A) row j (nI rs.length)) A 16 0 (fr + (own A).length) (rs.length + 1)).length ≤ 15) : ∃ M2, f_TR_listBranch rc G z (nI fr) (nI (fr + A.length)) (nI Q.length) par M = some M2 ∧ Only M M2 (lcs z u) ∧ LsS M2 z u (lv + ((List.range' 0 16).map (fun c => pw wl d (sub c A))).sum) (ex + ((List.range' 0 16).map (fun c => pw we d (sub c A))).sum) (rs ++ (Q, A, fr, par) :: lsk (fun c row j => lsr d (Q ++ [c]) (sub c A) row j (nI rs.length)) A 16 0 (fr + (own A).length) (rs.length + 1)) := by
  have h3 := hs.2.2.1
  have c1 : ¬ (4 : Int32) ≤ nI Q.length := nI_ge hQ (by decide)
  have c2 : ¬ nI rs.length = 15 := fun q => by have := (nI_eq (b := 15) (by omega) (by decide)).mp q; omega
  have i15 : ix (nI rs.length) 15 = some rs.length := ix_nI (by omega) (by decide)
  have hm : TrM G (lput M z u rs.length fr (fr + A.length) Q.length par) z u L := h.only lput_only
  have hsd := SDK hA
  have ha2 := ha
  rw [hsd, ab_app] at ha2
  have k2 := (at_app ha2).2
  rw [ab_len] at k2
  have hen : fr + (own A).length + (restK A 0 16).length = fr + A.length := by
    have := congrArg List.length hsd
    rw [List.length_append] at this
    omega
  have hsl := lput_s (fr := fr) (par := par) (Q := Q) (A := A) h.1 hs
  obtain ⟨M2, e2, o2, s2⟩ := ll_loop (i0 := rs.length) hrc hA 16 0 (fr + (own A).length) 4079 lv ex _ _ rfl hm k2 hen hsl (by rw [List.length_append]; exact hb)
  refine ⟨M2, ?_, lput_only.tr o2, ?_⟩
  · have hfc := first_child hm ha hA h1 (by omega)
    have e3 : gr M z 4 = u 3 := h.1.1.2.2.2.1
    have e4 : gr M z 5 = u 4 := h.1.1.2.2.2.2.1
    have e5 : gr M z 6 = u 5 := h.1.1.2.2.2.2.2.1
    have e6 : gr M z 7 = u 6 := h.1.1.2.2.2.2.2.2.1
    have g3 : G (u 3) = 15 := h.1.2.1.2.2.1
    have g4 : G (u 4) = 15 := h.1.2.1.2.2.2.1
    have g5 : G (u 5) = 15 := h.1.2.1.2.2.2.2.1
    have g6 : G (u 6) = 15 := h.1.2.1.2.2.2.2.2.1
    rw [nI_0] at e2
    unfold f_TR_listBranch
    rw [if_neg c1, h3, if_neg c2]
    simp only [st, gr_si, e3, e4, e5, e6, g3, g4, g5, g6, i15, Option.bind_some]
    unfold lput at hfc e2
    rw [hfc, Option.bind_some]
    exact e2
  · rw [List.length_append, List.append_assoc] at s2
    exact s2
end CL
