/-! A trie's map changes; a trie becomes like another. -/
def wo (p : List Nat) (L : List Ent) : List Ent := L.filter (fun e => decide (e.1 ≠ p))
def hasK (p : List Nat) (L : List Ent) : Prop := ∃ e ∈ L, e.1 = p
noncomputable def chg (p : List Nat) (v : Int32) (L : List Ent) : List Ent := @ite _ (hasK p L) (Classical.propDecidable _) (if v = 0 then wo p L else (p, v) :: wo p L) (if v = 0 ∨ L.length = 16 then L else (p, v) :: L)
theorem hasK_perm {p : List Nat} {L K : List Ent} (h : L.Perm K) : hasK p L ↔ hasK p K := ⟨fun ⟨e, he, q⟩ => ⟨e, h.mem_iff.mp he, q⟩, fun ⟨e, he, q⟩ => ⟨e, h.mem_iff.mpr he, q⟩⟩
theorem chg_perm {p : List Nat} {v : Int32} {L K : List Ent} (h : L.Perm K) : (chg p v L).Perm (chg p v K) := by
  unfold chg
  have hw : (wo p L).Perm (wo p K) := h.filter _
  by_cases c : hasK p L
  · rw [if_pos c, if_pos ((hasK_perm h).mp c)]
    by_cases d : v = 0
    · rw [if_pos d, if_pos d]; exact hw
    · rw [if_neg d, if_neg d]; exact hw.cons _
  · rw [if_neg c, if_neg (fun q => c ((hasK_perm h).mpr q)), h.length_eq]
    by_cases d : v = 0 ∨ K.length = 16
    · rw [if_pos d, if_pos d]; exact h
    · rw [if_neg d, if_neg d]; exact h.cons _
theorem split_at {L : List Ent} {j : Nat} (hj : j < L.length) : L = L.take j ++ L[j] :: L.drop (j + 1) := by
  rw [← List.drop_eq_getElem_cons hj, List.take_append_drop]
theorem era_wo' {L : List Ent} (hk : Keys L) {j : Nat} (hj : j < L.length) {p : List Nat} (hp : L[j].1 = p) : L.eraseIdx j = wo p L := by
  have hs := split_at hj
  have hq := hk.2
  rw [hs, List.pairwise_append] at hq
  obtain ⟨-, p2, p3⟩ := hq
  have p2 := (List.pairwise_cons.mp p2).1
  unfold wo
  have e : L.filter (fun e => decide (e.1 ≠ p)) = (L.take j ++ L[j] :: L.drop (j + 1)).filter (fun e => decide (e.1 ≠ p)) := congrArg (List.filter (fun e => decide (e.1 ≠ p))) hs
  rw [e, List.eraseIdx_eq_take_drop_succ, List.filter_append, List.filter_cons, if_neg (by rw [hp]; simp)]
  congr 1
  · exact (List.filter_eq_self.mpr (fun e he => decide_eq_true (by rw [← hp]; exact p3 e he _ List.mem_cons_self))).symm
  · exact (List.filter_eq_self.mpr (fun e he => decide_eq_true (show e.1 ≠ p from fun q => p2 e he (hp.trans q.symm)))).symm
theorem era_wo {L : List Ent} (hk : Keys L) {j : Nat} (hj : j < L.length) : L.eraseIdx j = wo L[j].1 L := era_wo' hk hj rfl
theorem set_wo {L : List Ent} (hk : Keys L) {j : Nat} (hj : j < L.length) {v : Int32} : (L.set j (L[j].1, v)).Perm ((L[j].1, v) :: wo L[j].1 L) := by
  rw [← era_wo hk hj, List.set_eq_take_append_cons_drop, if_pos hj, List.eraseIdx_eq_take_drop_succ]
  exact List.perm_middle
theorem set_srt {L : List Ent} (h : Srt L) {j : Nat} (hj : j < L.length) {v : Int32} : Srt (L.set j (L[j].1, v)) := by
  have e : (L.set j (L[j].1, v)).map Prod.fst = L.map Prod.fst := by
    rw [List.map_set]
    have : (L[j].1, v).fst = (L.map Prod.fst)[j]'(by rw [List.length_map]; exact hj) := by rw [List.getElem_map]
    rw [this, List.set_getElem_self]
  refine ⟨fun d hd => ?_, ?_⟩
  · have : d.1 ∈ (L.set j (L[j].1, v)).map Prod.fst := List.mem_map.mpr ⟨d, hd, rfl⟩
    rw [e] at this
    obtain ⟨d', h1, h2⟩ := List.mem_map.mp this
    rw [← h2]
    exact h.1 d' h1
  · have hp : (L.map Prod.fst).Pairwise lx := List.pairwise_map.mpr h.2
    rw [← e] at hp
    exact List.pairwise_map.mp hp
/-- the list asks for the keys alone -/
def kys (A : List Ent) : List (List Nat) := A.map Prod.fst
theorem kys_hdk {A B : List Ent} (h : kys A = kys B) : hdk A = hdk B := by
  have : ∀ A : List Ent, hdk A = (kys A).head?.getD [] := fun A => by cases A <;> rfl
  rw [this A, this B, h]
theorem kys_ltk {A B : List Ent} (h : kys A = kys B) : ltk A = ltk B := by
  have : ∀ A : List Ent, ltk A = (kys A).getLast?.getD [] := fun A => by unfold ltk kys; rw [List.getLast?_map]
  rw [this A, this B, h]
theorem kys_cm {A B : List Ent} (h : kys A = kys B) : cm A = cm B := by unfold cm; rw [kys_hdk h, kys_ltk h]
theorem kys_len {A B : List Ent} (h : kys A = kys B) : A.length = B.length := by
  have := congrArg List.length h
  unfold kys at this
  rw [List.length_map, List.length_map] at this
  exact this
theorem kys_brA {A B : List Ent} (h : kys A = kys B) : kys (brA A) = kys (brA B) := by
  have : ∀ A : List Ent, ∀ k, kys (strip k A) = (kys A).map (fun p => p.drop k) := fun A k => by unfold kys strip; rw [List.map_map, List.map_map]; rfl
  unfold brA
  rw [this, this, h, kys_cm h]
theorem kys_rl {A B : List Ent} (h : kys A = kys B) (P : List Nat) : kys (rl P A) = kys (rl P B) := by
  have : ∀ A : List Ent, kys (rl P A) = (kys A).filterMap (fun p => if P <+: p then some (p.drop P.length) else none) := fun A => by
    induction A with
    | nil => rfl
    | cons a A ih =>
      unfold kys rl at ih ⊢
      rw [List.filterMap_cons, List.map_cons, List.filterMap_cons]
      by_cases c : P <+: a.1
      · rw [if_pos c, if_pos c]; simp only [List.map_cons]; rw [ih]
      · rw [if_neg c, if_neg c]; exact ih
  rw [this, this, h]
theorem kys_sub {A B : List Ent} (h : kys A = kys B) (c : Nat) : kys (sub c A) = kys (sub c B) := kys_rl h [c]
theorem kys_own {A B : List Ent} (h : kys A = kys B) : (own A).length = (own B).length := by
  have : ∀ A : List Ent, (own A).length = ((kys A).filter (fun p => p.isEmpty)).length := fun A => by
    unfold own kys
    rw [List.filter_map, List.length_map]
    rfl
  rw [this, this, h]
def shp (r : Rec) : List Nat × Nat × Nat × Int32 := (r.1, r.2.1.length, r.2.2.1, r.2.2.2)
theorem lsk_kys {A B : List Ent} {g g' : Nat → Nat → Nat → List Rec} (h : kys A = kys B) (hg : ∀ c row i, (g c row i).map shp = (g' c row i).map shp) : ∀ (n c row i : Nat), (lsk g A n c row i).map shp = (lsk g' B n c row i).map shp := by
  intro n
  induction n with
  | zero => intro c row i; rfl
  | succ n ih =>
    intro c row i
    have hl : (g c row i).length = (g' c row i).length := by
      have := congrArg List.length (hg c row i)
      rw [List.length_map, List.length_map] at this
      exact this
    rw [lsk, lsk, List.map_append, List.map_append, hg c row i, hl, kys_len (kys_sub h c), ih]
theorem lsr_kys : ∀ (n : Nat) (P : List Nat) (A B : List Ent) (fr i : Nat) (par : Int32), kys A = kys B → (lsr n P A fr i par).map shp = (lsr n P B fr i par).map shp := by
  intro n
  induction n with
  | zero => intro P A B fr i par h; rfl
  | succ n ih =>
    intro P A B fr i par h
    rw [lsr, lsr, kys_len h]
    by_cases c : B.length ≤ 1
    · rw [if_pos c, if_pos c]
    · have hb := kys_brA h
      have hq : brQ P A = brQ P B := by unfold brQ; rw [kys_hdk h, kys_cm h]
      rw [if_neg c, if_neg c, List.map_cons, List.map_cons, kys_own hb, hq, lsk_kys hb (g' := fun c row j => lsr n (brQ P B ++ [c]) (sub c (brA B)) row j (nI i)) (fun c row j => ih _ _ _ _ _ _ (kys_sub hb c))]
      unfold shp
      rw [kys_len hb]
theorem pw_kys {w : List Ent → Nat} (hw : ∀ A B, kys A = kys B → w A = w B) : ∀ (n : Nat) (A B : List Ent), kys A = kys B → pw w n A = pw w n B := by
  intro n
  induction n with
  | zero => intro A B _; rfl
  | succ n ih =>
    intro A B h
    have : (fun c => pw w n (sub c (brA A))) = (fun c => pw w n (sub c (brA B))) := by
      funext c
      exact ih _ _ (kys_rl (kys_brA h) [c])
    rw [pw, pw, hw A B h, kys_len h, this]
theorem wl_kys (A B : List Ent) (h : kys A = kys B) : wl A = wl B := by unfold wl; rw [kys_len h]
theorem we_kys (A B : List Ent) (h : kys A = kys B) : we A = we B := by unfold we; rw [kys_len h, kys_cm h]
theorem LsS.same {M : Mm} {z : Nat} {u : Nat → Nat} {lv ex : Nat} {rs rs' : List Rec} (h : LsS M z u lv ex rs) (e : rs.map shp = rs'.map shp) : LsS M z u lv ex rs' := by
  obtain ⟨h1, h2, h3, h4⟩ := h
  have hl : rs.length = rs'.length := by
    have := congrArg List.length e
    rw [List.length_map, List.length_map] at this
    exact this
  refine ⟨h1, h2, by rw [h3, hl], fun i r hr => ?_⟩
  have hi : i < rs.length := by rw [hl]; exact (List.getElem?_eq_some_iff.mp hr).1
  have e2 := congrArg (fun l => l[i]?) e
  simp only [List.getElem?_map, hr, List.getElem?_eq_getElem hi, Option.map_some] at e2
  have e3 := Option.some.inj e2
  have q := h4 i rs[i] (List.getElem?_eq_getElem hi)
  obtain ⟨q1, q2, q3, q4⟩ := q
  have a1 : rs[i].1 = r.1 := congrArg (fun x => x.1) e3
  have a2 : rs[i].2.1.length = r.2.1.length := congrArg (fun x => x.2.1) e3
  have a3 : rs[i].2.2.1 = r.2.2.1 := congrArg (fun x => x.2.2.1) e3
  have a4 : rs[i].2.2.2 = r.2.2.2 := congrArg (fun x => x.2.2.2) e3
  rw [a1] at q3
  rw [a3] at q1
  rw [a2, a3] at q2
  rw [a4] at q4
  exact ⟨q1, q2, q3, q4⟩
def tcs (z : Nat) (u : Nat → Nat) : List Nat := [z, u 0, u 1, u 2, u 3, u 4, u 5, u 6]
theorem Only.sub {M M2 : Mm} {cs ds : List Nat} (h : Only M M2 cs) (hs : ∀ c ∈ cs, c ∈ ds) : Only M M2 ds := ⟨h.1, fun c hc => h.2 c (fun q => hc (hs c q))⟩
section CC
variable {G : Nat → Nat} {z : Nat} {u : Nat → Nat} {L : List Ent}
theorem lcs_tcs : ∀ c ∈ lcs z u, c ∈ tcs z u := by
  intro c hc
  simp only [lcs, tcs, List.mem_cons, List.not_mem_nil, or_false] at hc ⊢
  rcases hc with h | h | h | h | h <;> simp [h]
theorem map_tcs : ∀ c ∈ [u 0, u 1, u 2], c ∈ tcs z u := by
  intro c hc
  simp only [tcs, List.mem_cons, List.not_mem_nil, or_false] at hc ⊢
  rcases hc with h | h | h <;> simp [h]
theorem fd_key {p : List Nat} (hp : nb p) (hL : Srt L) (h16 : L.length ≤ 16) : (fd (nI (num p)) L 0 = -1 ∧ vals (nI (num p)) L = 0 ∧ ¬ hasK p L) ∨ ∃ (j : Nat) (h : j < L.length), fd (nI (num p)) L 0 = nI j ∧ L[j].1 = p ∧ vals (nI (num p)) L = L[j].2 := by
  rcases fd_or (nI (num p)) L 0 (by omega) with ⟨a, b, c⟩ | ⟨j, hj, a, b, c⟩
  · refine Or.inl ⟨a, b, ?_⟩
    rintro ⟨e, he, q⟩
    exact c e he (by rw [q])
  · refine Or.inr ⟨j, hj, by rw [a, Nat.zero_add], ?_, c⟩
    have hb := hL.1 _ (List.getElem_mem hj)
    have s1 := num_sm hb
    have s2 := num_sm hp
    exact num_inj' hb.2 hp.2 ((nI_eq (by omega) (by omega)).mp b)
theorem change_eq {M : Mm} (h : TrI G M z u L) {p : List Nat} (hp : nb p) {v : Int32} : ∃ M2 L2, f_TR_change G z (nI (num p)) v M = some (vals (nI (num p)) L, M2) ∧ TrI G M2 z u L2 ∧ Only M M2 (tcs z u) ∧ L2.Perm (chg p v L) := by
  obtain ⟨ht, hl⟩ := h
  have h16 := ht.2.1.1
  have hS := ht.2.2
  have hu : ∀ i j, i < 13 → j < 13 → i ≠ j → u i ≠ u j := fun i j a b c e => c (ht.1.2.2.1 i j a b e)
  unfold f_TR_change
  rw [ht.1.1.1, rowOf_eq ht.2.1, Option.bind_some]
  rcases fd_key hp hS h16 with ⟨e1, e2, e3⟩ | ⟨j, hj, e1, e2, e3⟩
  · rw [e1, e2, if_pos rfl]
    have hc : chg p v L = if v = 0 ∨ L.length = 16 then L else (p, v) :: L := by unfold chg; rw [if_neg e3]
    rw [hc]
    by_cases hv : v = 0
    · rw [if_pos hv, if_pos (Or.inl hv)]
      exact ⟨M, L, rfl, ⟨ht, hl⟩, Only.rf, List.Perm.refl _⟩
    · rw [if_neg hv]
      by_cases hf : L.length = 16
      · rw [if_pos (Or.inr hf)]
        have hi : f_PM_insert G (u 0) (nI (num p)) v M = some M := by
          unfold f_PM_insert
          rw [ht.2.1.2.2.2.1, hf, if_pos (by rfl)]
        obtain ⟨M2, q1, q2, q3⟩ := list_eq ht
        rw [hi, Option.bind_some, q1]
        exact ⟨M2, L, rfl, q3, q2.sub lcs_tcs, List.Perm.refl _⟩
      · rw [if_neg (by rintro (q | q); exact hv q; exact hf q)]
        obtain ⟨M1, i1, i2, i3, -⟩ := insert_eq (v := v) ht.2.1 ht.1.1.2.1 ht.1.1.2.2.1 (hu 0 1 (by omega) (by omega) (by omega)) (hu 0 2 (by omega) (by omega) (by omega)) (hu 1 2 (by omega) (by omega) (by omega)) hS.1 hp (by omega)
        have ht1 : TrM G M1 z u (L.take (ipos p L L.length) ++ (p, v) :: L.drop (ipos p L L.length)) := ⟨ht.1.ref (by rw [i3.1]), i2, ins_srt hS hp (fun e he q => e3 ⟨e, he, q⟩)⟩
        obtain ⟨M2, q1, q2, q3⟩ := list_eq ht1
        rw [i1, Option.bind_some, q1]
        exact ⟨M2, _, rfl, q3, (i3.sub map_tcs).tr (q2.sub lcs_tcs), ins_perm⟩
  · subst e2
    have hK : hasK L[j].1 L := ⟨_, List.getElem_mem hj, rfl⟩
    have hc : chg L[j].1 v L = if v = 0 then wo L[j].1 L else (L[j].1, v) :: wo L[j].1 L := by unfold chg; rw [if_pos hK]
    have hr := (rows_iff.mp ht.2.1.2.2.2.2) j L[j] (List.getElem?_eq_getElem hj)
    rw [Nat.zero_add, ht.1.1.2.1, ht.1.1.2.2.1] at hr
    rw [e1, e3, hc, if_neg (m1_ne (by omega)), ht.1.1.2.2.1, ht.1.2.1.2.1, ix_nI (by omega) (by decide), Option.bind_some, hr.2]
    simp only [st]
    by_cases hv : v = 0
    · rw [if_pos hv, if_pos hv]
      obtain ⟨M1, i1, i2, i3, -⟩ := remove_eq ht.2.1 ht.1.1.2.1 ht.1.1.2.2.1 (hu 0 1 (by omega) (by omega) (by omega)) (hu 0 2 (by omega) (by omega) (by omega)) (hu 1 2 (by omega) (by omega) (by omega)) hj
      have ht1 : TrM G M1 z u (L.eraseIdx j) := ⟨ht.1.ref (by rw [i3.1]), i2, era_srt hS⟩
      obtain ⟨M2, q1, q2, q3⟩ := list_eq ht1
      rw [i1, Option.bind_some, q1]
      exact ⟨M2, _, rfl, q3, (i3.sub map_tcs).tr (q2.sub lcs_tcs), by rw [era_wo hS.keys hj]⟩
    · rw [if_neg hv, if_neg hv]
      have o1 : Only M (si M (u 2) j v) [u 2] := Only.rf.si (by simp)
      have k1 : (si M (u 2) j v).1 (u 0) = M.1 (u 0) := o1.2 _ (by simp; exact hu 0 2 (by omega) (by omega) (by omega))
      refine ⟨_, L.set j (L[j].1, v), rfl, ?_, o1.sub (by simp [tcs]), set_wo hS.keys hj⟩
      have hrep : RepM G (si M (u 2) j v) (u 0) (L.set j (L[j].1, v)) := by
        obtain ⟨a1, a2, a3, a4, a5⟩ := ht.2.1
        refine ⟨by rw [List.length_set]; exact a1, by rw [gr_si]; exact a2, by rw [gr_si]; exact a3, ?_, ?_⟩
        · rw [List.length_set, gi_si, if_neg (fun q => hu 0 2 (by omega) (by omega) (by omega) q.1)]
          exact a4
        · rw [gr_si, gr_si, ht.1.1.2.1, ht.1.1.2.2.1, rows_iff]
          rw [ht.1.1.2.1, ht.1.1.2.2.1, rows_iff] at a5
          intro i e he
          rw [gi_si, if_neg (fun q => hu 1 2 (by omega) (by omega) (by omega) q.1), gi_si, Nat.zero_add]
          by_cases c : i = j
          · subst c
            rw [List.getElem?_set_self (by exact hj)] at he
            have : e = (L[i].1, v) := (Option.some.inj he).symm
            subst this
            rw [if_pos ⟨rfl, rfl⟩]
            exact ⟨hr.1, rfl⟩
          · rw [List.getElem?_set_ne (fun q => c q.symm)] at he
            rw [if_neg (fun q => c q.2)]
            have := a5 i e he
            rw [Nat.zero_add] at this
            exact this
      refine ⟨⟨ht.1.ref rfl, hrep, set_srt hS hj⟩, ?_⟩
      have hky : kys L = kys (L.set j (L[j].1, v)) := by
        unfold kys
        rw [List.map_set]
        have : (L[j].1, v).fst = (L.map Prod.fst)[j]'(by rw [List.length_map]; exact hj) := by rw [List.getElem_map]
        rw [this, List.set_getElem_self]
      rw [← pw_kys wl_kys RD _ _ hky, ← pw_kys we_kys RD _ _ hky]
      refine LsS.same ?_ (lsr_kys RD [] _ _ 0 0 (-1) hky)
      obtain ⟨l1, l2, l3, l4⟩ := hl
      have nz : z ≠ u 2 := ht.1.2.2.2 2 (by omega)
      have k : ∀ c, c ≠ u 2 → ∀ i, gi (si M (u 2) j v) c i = gi M c i := fun c hc i => by rw [gi_si, if_neg (fun q => hc q.1)]
      refine ⟨by rw [k _ nz]; exact l1, by rw [k _ nz]; exact l2, by rw [k _ nz]; exact l3, fun i r hr => ?_⟩
      rw [k _ (hu 4 2 (by omega) (by omega) (by omega)), k _ (hu 5 2 (by omega) (by omega) (by omega)), k _ (hu 6 2 (by omega) (by omega) (by omega)), k _ (hu 3 2 (by omega) (by omega) (by omega))]
      exact l4 i r hr
end CC
