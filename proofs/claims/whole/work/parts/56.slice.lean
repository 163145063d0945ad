/-! Rows side by side that begin alike; the ends of a branch's children. -/
/-- what lies between two paths begins as both begin -/
theorem cl_mid : ∀ (p q r : List Nat), (lx p q ∨ p = q) → (lx q r ∨ q = r) → cl p r ≤ q.length ∧ q.take (cl p r) = p.take (cl p r) := by
  intro p
  induction p with
  | nil => intro q r _ _; simp [cl]
  | cons a p ih =>
    intro q r h1 h2
    cases r with
    | nil => simp [cl]
    | cons c r =>
      by_cases e : a = c
      · subst e
        have ec : cl (a :: p) (a :: r) = cl p r + 1 := by rw [cl, if_pos rfl]
        cases q with
        | nil =>
          rcases h1 with h1 | h1
          · exact absurd h1 (fun h => h)
          · cases h1
        | cons b q =>
          have hb : a = b ∧ (lx p q ∨ p = q) ∧ (lx q r ∨ q = r) := by
            rcases h1 with h1 | h1
            · rcases h1 with h1 | ⟨rfl, h1⟩
              · rcases h2 with h2 | h2
                · rcases h2 with h2 | ⟨rfl, h2⟩
                  · omega
                  · omega
                · cases h2
                  omega
              · rcases h2 with h2 | h2
                · rcases h2 with h2 | ⟨-, h2⟩
                  · omega
                  · exact ⟨rfl, Or.inl h1, Or.inl h2⟩
                · cases h2
                  exact ⟨rfl, Or.inl h1, Or.inr rfl⟩
            · cases h1
              rcases h2 with h2 | h2
              · rcases h2 with h2 | ⟨-, h2⟩
                · omega
                · exact ⟨rfl, Or.inr rfl, Or.inl h2⟩
              · cases h2
                exact ⟨rfl, Or.inr rfl, Or.inr rfl⟩
          obtain ⟨rfl, g1, g2⟩ := hb
          have := ih q r g1 g2
          rw [ec]
          refine ⟨by simp; exact this.1, ?_⟩
          rw [List.take_succ_cons, List.take_succ_cons, this.2]
      · have ec : cl (a :: p) (c :: r) = 0 := by rw [cl, if_neg e]
        rw [ec]
        simp
def pth (es : List Ent) (i : Nat) : List Nat := ((es[i]?).map (·.1)).getD []
theorem pth_eq {es : List Ent} {i : Nat} {e : Ent} (h : es[i]? = some e) : pth es i = e.1 := by unfold pth; rw [h]; rfl
theorem pth_nb {es : List Ent} (h : ∀ e ∈ es, nb e.1) {i : Nat} (hi : i < es.length) : nb (pth es i) := by
  rw [pth_eq (List.getElem?_eq_getElem hi)]
  exact h _ (List.getElem_mem hi)
theorem rep_path {G : Nat → Nat} {M : Mm} {a : Nat} {es : List Ent} (h : RepM G M a es) {i : Nat} (hi : i < es.length) : gi M (gr M a 0) i = nI (num (pth es i)) := by
  have := (h.2.2.2.2 i hi).1
  rw [Nat.zero_add] at this
  rw [this, pth_eq (List.getElem?_eq_getElem hi)]
/-- where the rows with the nibble c at place tk have their end: at most k rows from row on -/
def eoc (es : List Ent) (tk c : Nat) : Nat → Nat → Nat
  | 0, row => row
  | k + 1, row => if (pth es row)[tk]? = some c then eoc es tk c k (row + 1) else row
theorem eoc_le {es : List Ent} {tk c : Nat} : ∀ k row, row ≤ eoc es tk c k row ∧ eoc es tk c k row ≤ row + k := by
  intro k
  induction k with
  | zero => intro row; simp [eoc]
  | succ k ih =>
    intro row
    unfold eoc
    have := ih (row + 1)
    by_cases h : (pth es row)[tk]? = some c
    · rw [if_pos h]; omega
    · rw [if_neg h]; omega
theorem eoc_in {es : List Ent} {tk c : Nat} : ∀ k row i, row ≤ i → i < eoc es tk c k row → (pth es i)[tk]? = some c := by
  intro k
  induction k with
  | zero => intro row i h1 h2; simp only [eoc] at h2; omega
  | succ k ih =>
    intro row i h1 h2
    unfold eoc at h2
    by_cases h : (pth es row)[tk]? = some c
    · rw [if_pos h] at h2
      by_cases e : i = row
      · rw [e]; exact h
      · exact ih (row + 1) i (by omega) h2
    · rw [if_neg h] at h2; omega
theorem endOfChild_eq {G : Nat → Nat} {M : Mm} {a : Nat} {es : List Ent} (h : RepM G M a es) (hb : ∀ e ∈ es, nb e.1) {row en tk c : Nat} (hre : row ≤ en) (hen : en ≤ es.length) (hc : c < 16) (hl : ∀ i, row ≤ i → i < en → tk < (pth es i).length) : f_PM_endOfChild G a (nI row) (nI en) (nI tk) (nI c) M = some (nI (eoc es tk c (en - row) row)) := by
  have h16 := h.1
  have go : ∀ (k r f : Nat), r + k = en → row ≤ r → f_PM_endOfChild_3 G (k + f + 1) a (nI en) (nI tk) (nI c) (nI r) M = some (nI (eoc es tk c k r)) := by
    intro k
    induction k with
    | zero =>
      intro r f hr _
      have : r = en := by omega
      subst this
      rw [f_PM_endOfChild_3, if_pos ((nI_leI (by omega) (by omega)).mpr (Nat.le_refl _))]
      rfl
    | succ k ih =>
      intro r f hr hrow
      have hlt : r < es.length := by omega
      have hn := pth_nb hb hlt
      have hlen := hl r hrow (by omega)
      have hd : (pth es r)[tk] < 16 := hn.2 _ (List.getElem_mem hlen)
      have e1 : f_PA_nibble (gi M (gr M a 0) r) (nI tk) = nI ((pth es r)[tk]) := by rw [rep_path h hlt, PA_nibble_eq hn hlen]
      have e2 : (pth es r)[tk]? = some (pth es r)[tk] := List.getElem?_eq_getElem hlen
      rw [show k + 1 + f + 1 = (k + f + 1) + 1 by omega, f_PM_endOfChild_3, if_neg (nI_ge (by omega) (by omega)), h.2.1, ix_nI (by omega) (by decide), Option.bind_some, e1, eoc, e2]
      by_cases hcc : (pth es r)[tk] = c
      · rw [if_pos (by rw [hcc]), if_pos (by rw [hcc]), show nI r + 1 = nI (r + 1) from nI_add r 1]
        exact ih (r + 1) f (by omega) (by omega)
      · rw [if_neg (fun q => hcc ((nI_eq (by omega) (by omega)).mp q)), if_neg (fun q => hcc (Option.some.inj q))]
  unfold f_PM_endOfChild
  have := go (en - row) row (4095 - (en - row)) (by omega) (Nat.le_refl _)
  rw [show en - row + (4095 - (en - row)) + 1 = FU by unfold FU; omega] at this
  exact this
theorem endsAt_eq {G : Nat → Nat} {M : Mm} {a : Nat} {es : List Ent} (h : RepM G M a es) (hb : ∀ e ∈ es, nb e.1) {row tk : Nat} (hr : row < es.length) (ht : tk < 2 ^ 31) : f_PM_endsAt G a (nI row) (nI tk) M = some (if (pth es row).length = tk then 1 else 0) := by
  have h16 := h.1
  have hn := pth_nb hb hr
  unfold f_PM_endsAt
  rw [h.2.1, ix_nI (by omega) (by decide), Option.bind_some, rep_path h hr, PA_length_eq hn]
  have hl := hn.1
  by_cases e : (pth es row).length = tk
  · rw [if_pos e, if_pos (by rw [e])]
  · rw [if_neg e, if_neg (fun q => e ((nI_eq (by omega) ht).mp q))]
/-- the first row of a branch's children -/
def fcr (es : List Ent) (fr tk : Nat) : Nat := if (pth es fr).length = tk then fr + 1 else fr
theorem firstChildRow_eq {G : Nat → Nat} {M : Mm} {z a : Nat} {es : List Ent} (hz : gr M z 0 = a) (h : RepM G M a es) (hb : ∀ e ∈ es, nb e.1) {fr tk : Nat} (hr : fr < es.length) (ht : tk < 2 ^ 31) : f_TR_firstChildRow G z (nI fr) (nI tk) M = some (nI (fcr es fr tk)) := by
  unfold f_TR_firstChildRow fcr
  rw [hz, endsAt_eq h hb hr ht, Option.bind_some]
  by_cases e : (pth es fr).length = tk
  · rw [if_pos e, if_pos e, if_neg (by decide), show nI fr + 1 = nI (fr + 1) from nI_add fr 1]
  · rw [if_neg e, if_neg e, if_pos rfl]
/-- the rows fr .. en - 1 begin alike, for tk nibbles -/
def Sl (es : List Ent) (fr en tk : Nat) : Prop := fr ≤ en ∧ en ≤ es.length ∧ (∀ i, fr ≤ i → i < en → tk ≤ (pth es i).length) ∧ ∀ i j, fr ≤ i → i < en → fr ≤ j → j < en → (pth es i).take tk = (pth es j).take tk
theorem srt_pth {es : List Ent} (h : Srt es) {i j : Nat} (hij : i < j) (hj : j < es.length) : lx (pth es i) (pth es j) := by
  rw [pth_eq (List.getElem?_eq_getElem (show i < es.length by omega)), pth_eq (List.getElem?_eq_getElem hj)]
  exact srt_at h (List.getElem?_eq_getElem (show i < es.length by omega)) (List.getElem?_eq_getElem hj) hij
theorem cl_ge : ∀ (p q : List Nat) (k : Nat), k ≤ p.length → k ≤ q.length → p.take k = q.take k → k ≤ cl p q := by
  intro p
  induction p with
  | nil => intro q k h1 _ _; simp at h1; omega
  | cons a p ih =>
    intro q k h1 h2 h3
    cases k with
    | zero => omega
    | succ k =>
      cases q with
      | nil => simp at h2
      | cons b q =>
        rw [List.take_succ_cons, List.take_succ_cons] at h3
        obtain ⟨e1, e2⟩ := List.cons.inj h3
        rw [cl, if_pos e1]
        have := ih q k (by simpa using h1) (by simpa using h2) e2
        omega
/-- rows that begin alike begin alike as far as the first and the last do -/
theorem Sl.com {es : List Ent} (hs : Srt es) {fr en tk : Nat} (h : Sl es fr en tk) (hl : fr + 1 < en) : Sl es fr en (cl (pth es fr) (pth es (en - 1))) ∧ tk ≤ cl (pth es fr) (pth es (en - 1)) := by
  obtain ⟨h1, h2, h3, h4⟩ := h
  have key : ∀ i, fr ≤ i → i < en → cl (pth es fr) (pth es (en - 1)) ≤ (pth es i).length ∧ (pth es i).take (cl (pth es fr) (pth es (en - 1))) = (pth es fr).take (cl (pth es fr) (pth es (en - 1))) := fun i hi hj => by
    refine cl_mid _ _ _ ?_ ?_
    · by_cases e : fr = i
      · exact Or.inr (by rw [e])
      · exact Or.inl (srt_pth hs (by omega) (by omega))
    · by_cases e : i = en - 1
      · exact Or.inr (by rw [e])
      · exact Or.inl (srt_pth hs (by omega) (by omega))
  refine ⟨⟨h1, h2, fun i hi hj => (key i hi hj).1, fun i j a1 a2 a3 a4 => (key i a1 a2).2.trans (key j a3 a4).2.symm⟩, ?_⟩
  exact cl_ge _ _ _ (h3 fr (Nat.le_refl _) (by omega)) (h3 (en - 1) (by omega) (by omega)) (h4 fr (en - 1) (Nat.le_refl _) (by omega) (by omega) (by omega))
theorem take_len {p q : List Nat} {k : Nat} (h : p.take k = q.take k) (hp : p.length = k) (hq : q.length = k) : p = q := by
  rw [← List.take_of_length_le (Nat.le_of_eq hp), ← List.take_of_length_le (Nat.le_of_eq hq)]
  exact h
/-- behind the first child row every path is longer than the branch's -/
theorem fcr_long {es : List Ent} (hs : Srt es) {fr en tk : Nat} (h : Sl es fr en tk) (i : Nat) (h1 : fcr es fr tk ≤ i) (h2 : i < en) : tk < (pth es i).length := by
  have hfr : fr ≤ i := by unfold fcr at h1; by_cases e : (pth es fr).length = tk <;> simp [e] at h1 <;> omega
  have hle := h.2.2.1 i hfr h2
  rcases Nat.lt_or_eq_of_le hle with q | q
  · exact q
  · exfalso
    have hen := h.2.1
    by_cases e : i = fr
    · subst e
      unfold fcr at h1
      rw [if_pos q.symm] at h1
      omega
    · have hlx := srt_pth hs (show fr < i by omega) (by omega)
      have hfl := h.2.2.1 fr (Nat.le_refl _) (by omega)
      have ht := h.2.2.2 fr i (Nat.le_refl _) (by omega) hfr h2
      have hpre : pth es i = (pth es fr).take tk := by
        rw [ht, List.take_of_length_le (by omega)]
      have hno : ∀ (p : List Nat) (k : Nat), ¬ lx p (p.take k) := by
        intro p
        induction p with
        | nil => intro k hk; simp [lx] at hk
        | cons c p ih =>
          intro k hk
          cases k with
          | zero => exact hk
          | succ k =>
            rw [List.take_succ_cons] at hk
            rcases hk with hk | ⟨-, hk⟩
            · exact Nat.lt_irrefl c hk
            · exact ih k hk
      rw [hpre] at hlx
      exact hno _ _ hlx
/-- a child's rows begin alike for one nibble more -/
theorem Sl.child {es : List Ent} {fr en tk c row : Nat} (h : Sl es fr en tk) (h1 : fr ≤ row) (h2 : row ≤ en) : Sl es row (eoc es tk c (en - row) row) (tk + 1) := by
  have hb := eoc_le (es := es) (tk := tk) (c := c) (en - row) row
  have hin : ∀ i, row ≤ i → i < eoc es tk c (en - row) row → (pth es i)[tk]? = some c := fun i a b => eoc_in (en - row) row i a b
  refine ⟨hb.1, by have := h.2.1; omega, fun i a b => ?_, fun i j a1 a2 a3 a4 => ?_⟩
  · exact (List.getElem?_eq_some_iff.mp (hin i a b)).1
  · obtain ⟨l1, g1⟩ := List.getElem?_eq_some_iff.mp (hin i a1 a2)
    obtain ⟨l2, g2⟩ := List.getElem?_eq_some_iff.mp (hin j a3 a4)
    rw [List.take_succ_eq_append_getElem l1, List.take_succ_eq_append_getElem l2, g1, g2, h.2.2.2 i j (by omega) (by omega) (by omega) (by omega)]
