/-! Proofs: both sides write the same words. -/
def Ap (mo : Nat) (um : Nat → Nat) (M M2 : Mm) : Prop := M2.2.2 = M.2.2 ∧ (∀ c, c ≠ mo → M2.1 c = M.1 c) ∧ (∀ j, j = 3 ∨ j = 4 → M2.1 mo j = M.1 mo j) ∧ ∀ c, c ≠ mo → c ≠ um 6 → c ≠ um 7 → M2.2.1 c = M.2.1 c
theorem Ap.rf {mo : Nat} {um : Nat → Nat} {M : Mm} : Ap mo um M M := ⟨rfl, fun _ _ => rfl, fun _ _ => rfl, fun _ _ _ _ => rfl⟩
theorem Ap.tr {mo : Nat} {um : Nat → Nat} {M M1 M2 : Mm} (h : Ap mo um M M1) (g : Ap mo um M1 M2) : Ap mo um M M2 := ⟨g.1.trans h.1, fun c a => (g.2.1 c a).trans (h.2.1 c a), fun j a => (g.2.2.1 j a).trans (h.2.2.1 j a), fun c a b d => (g.2.2.2 c a b d).trans (h.2.2.2 c a b d)⟩
theorem Say.ap {mo : Nat} {um : Nat → Nat} {M M2 : Mm} (s : Say mo um M M2) : Ap mo um M M2 := ⟨s.1, s.2.1, fun j a => s.2.2.1 j (by omega), fun c _ b _ => s.2.2.2 c b⟩
/-- the words of the proof, at the reference -/
def PwS (M : Mm) (mo : Nat) (um : Nat → Nat) (pr : List Int64) : Prop := gi M mo 11 = nI pr.length ∧ ∀ (i : Nat) (x : Int64), pr[i]? = some x → gl M (um 7) i = x
theorem st_eq {α β : Type} (y : α) (f : α → β) : st y f = f y := rfl
theorem flat_if {α β : Type} {p : α → Prop} {f : α → List β} : ∀ (l : List α), l.flatMap (fun a => @ite (List β) (p a) (Classical.propDecidable _) (f a) []) = (l.filter (fun a => @decide (p a) (Classical.propDecidable _))).flatMap f := by
  intro l
  induction l with
  | nil => rfl
  | cons a l ih =>
    rw [List.flatMap_cons, ih, List.filter_cons]
    by_cases c : p a
    · rw [if_pos c, if_pos (@decide_eq_true _ (Classical.propDecidable _) c), List.flatMap_cons]
    · rw [if_neg c, if_neg (by rw [@decide_eq_false _ (Classical.propDecidable _) c]; decide), List.nil_append]
noncomputable def hwd (key : List Nat) (L : List Ent) (v : Nat) : List Int64 := @ite (List Int64) (isBr L (key.take v)) (Classical.propDecidable _) (encW dg (rl (key.take v) L)) []
def hdw (L : List Ent) : List Int64 := (nI (refW dg L).length).toInt64 :: refW dg L
noncomputable def prW (key : List Nat) (L : List Ent) : List Int64 := hdw L ++ (List.range' 0 (key.length + 1)).flatMap (hwd key L)
noncomputable def cw (key : List Nat) (r : Rec) : List Int64 := @ite (List Int64) (r.1 <+: key) (Classical.propDecidable _) (encW dg r.2.1) []
theorem few_len : ∀ (l : List (List Nat)) (b : Nat), l.Pairwise (fun x y => x.length < y.length) → (∀ x ∈ l, b ≤ x.length ∧ x.length < 4) → l.length ≤ 4 - b := by
  intro l
  induction l with
  | nil => intro b _ _; simp
  | cons x l ih =>
    intro b hp h
    have hx := h x List.mem_cons_self
    obtain ⟨h1, h2⟩ := List.pairwise_cons.mp hp
    have := ih (x.length + 1) h2 (fun y hy => ⟨h1 y hy, (h y (List.mem_cons_of_mem _ hy)).2⟩)
    rw [List.length_cons]
    omega
theorem flat_len {α : Type} {f : α → List Int64} (hf : ∀ a, (f a).length ≤ 49) : ∀ l : List α, (l.flatMap f).length ≤ 49 * l.length := by
  intro l
  induction l with
  | nil => simp
  | cons a l ih =>
    rw [List.flatMap_cons, List.length_append, List.length_cons]
    have := hf a
    omega
theorem words_eq {L : List Ent} (hL : Srt L) (key : List Nat) : hdw L ++ (brs L).flatMap (cw key) = prW key L ∧ (prW key L).length ≤ 199 := by
  have e1 : (brs L).flatMap (cw key) = (((brs L).filter (fun r => @decide (r.1 <+: key) (Classical.propDecidable _))).map Prod.fst).flatMap (fun Q => encW dg (rl Q L)) := by
    unfold cw
    rw [flat_if (p := fun r : Rec => r.1 <+: key) (f := fun r : Rec => encW dg r.2.1), List.flatMap_map, List.flatMap_def, List.flatMap_def]
    congr 1
    refine List.map_congr_left (fun r hr => ?_)
    rw [(brs_ok hL r (List.mem_filter.mp hr).1).1]
  have e2 : (List.range' 0 (key.length + 1)).flatMap (hwd key L) = (((List.range' 0 (key.length + 1)).filter (fun v => @decide (isBr L (key.take v)) (Classical.propDecidable _))).map (fun v => key.take v)).flatMap (fun Q => encW dg (rl Q L)) := by
    unfold hwd
    rw [flat_if (p := fun v : Nat => isBr L (key.take v)) (f := fun v : Nat => encW dg (rl (key.take v) L)), List.flatMap_map]
  have o1 : (((brs L).filter (fun r => @decide (r.1 <+: key) (Classical.propDecidable _))).map Prod.fst).Pairwise (fun x y => x.length < y.length) := by
    rw [List.pairwise_map]
    have hs := (lsr_ord (key := key) RD [] L 0 0 (-1)).sublist (List.filter_sublist (l := brs L) (p := fun r => @decide (r.1 <+: key) (Classical.propDecidable _)))
    refine hs.imp_of_mem (fun ha hb hab => ?_)
    have ha := @of_decide_eq_true _ (Classical.propDecidable _) (List.mem_filter.mp ha).2
    have hb := @of_decide_eq_true _ (Classical.propDecidable _) (List.mem_filter.mp hb).2
    exact hab.2 ha hb
  have o2 : (((List.range' 0 (key.length + 1)).filter (fun v => @decide (isBr L (key.take v)) (Classical.propDecidable _))).map (fun v => key.take v)).Pairwise (fun x y => x.length < y.length) := by
    rw [List.pairwise_map]
    have hs := (List.pairwise_lt_range' (s := 0) (n := key.length + 1)).sublist (List.filter_sublist (l := List.range' 0 (key.length + 1)) (p := fun v => @decide (isBr L (key.take v)) (Classical.propDecidable _)))
    refine hs.imp_of_mem (fun ha hb hab => ?_)
    have ha := List.mem_range'_1.mp (List.mem_filter.mp ha).1
    have hb := List.mem_range'_1.mp (List.mem_filter.mp hb).1
    rw [List.length_take, List.length_take]
    omega
  have hm : ∀ x, x ∈ ((brs L).filter (fun r => @decide (r.1 <+: key) (Classical.propDecidable _))).map Prod.fst ↔ (isBr L x ∧ x <+: key) := fun x => by
    constructor
    · intro h
      obtain ⟨r, hr, e⟩ := List.mem_map.mp h
      obtain ⟨h1, h2⟩ := List.mem_filter.mp hr
      have h2 := @of_decide_eq_true _ (Classical.propDecidable _) h2
      rw [e] at h2
      exact ⟨(brs_all hL).mp (List.mem_map.mpr ⟨r, h1, e⟩), h2⟩
    · rintro ⟨h1, h2⟩
      obtain ⟨r, hr, e⟩ := List.mem_map.mp ((brs_all hL).mpr h1)
      exact List.mem_map.mpr ⟨r, List.mem_filter.mpr ⟨hr, @decide_eq_true _ (Classical.propDecidable _) (by rw [e]; exact h2)⟩, e⟩
  have hm2 : ∀ x, x ∈ ((List.range' 0 (key.length + 1)).filter (fun v => @decide (isBr L (key.take v)) (Classical.propDecidable _))).map (fun v => key.take v) ↔ (isBr L x ∧ x <+: key) := fun x => by
    constructor
    · intro h
      obtain ⟨v, hr, e⟩ := List.mem_map.mp h
      obtain ⟨h1, h2⟩ := List.mem_filter.mp hr
      have h2 := @of_decide_eq_true _ (Classical.propDecidable _) h2
      subst e
      exact ⟨h2, List.take_prefix _ _⟩
    · rintro ⟨h1, h2⟩
      have e := List.prefix_iff_eq_take.mp h2
      refine List.mem_map.mpr ⟨x.length, List.mem_filter.mpr ⟨List.mem_range'_1.mpr ⟨Nat.zero_le _, by have := h2.length_le; omega⟩, @decide_eq_true _ (Classical.propDecidable _) (by rw [← e]; exact h1)⟩, e.symm⟩
  have hF := len_ext _ _ o1 o2 (fun x => (hm x).trans (hm2 x).symm)
  have hc : hdw L ++ (brs L).flatMap (cw key) = prW key L := by
    unfold prW
    rw [e1, e2, hF]
  refine ⟨hc, ?_⟩
  rw [← hc, e1, List.length_append]
  have h4 := few_len _ 0 o1 (fun x hx => ⟨Nat.zero_le _, (isBr_nb hL ((hm x).mp hx).1).2⟩)
  have hl := flat_len (f := fun Q => encW dg (rl Q L)) (fun Q => enc_len dg _) (((brs L).filter (fun r => @decide (r.1 <+: key) (Classical.propDecidable _))).map Prod.fst)
  have hr := ref_len dg L
  unfold hdw
  rw [List.length_cons]
  omega
/-! The class's side. -/
section CP
variable {G : Nat → Nat} {M M0 : Mm} {z w : Nat} {u : Nat → Nat} {L : List Ent} {key : List Nat}
theorem pathTo_eq (h : TrI G M z u L) {j : Nat} {r : Rec} (e : (brs L)[j]? = some r) : f_TR_pathTo G z (nI j) M = some (nI (num r.1)) := by
  obtain ⟨hj, hl⟩ := rec_len h e
  obtain ⟨a4, a5, a6, a3⟩ := h.2.2.2.2 j r e
  have hL := h.1.2.2
  obtain ⟨o1, o2, o3⟩ := brs_ok hL r (List.mem_of_getElem? e)
  have h1 : 1 ≤ r.2.1.length := by rw [o1]; have := o2.1; omega
  obtain ⟨b1, b2, b3, b4⟩ := row_at h.1 o3 (hdk_at h1)
  rw [Nat.add_zero] at b1 b2 b3
  have t1 := h.1
  obtain ⟨⟨⟨r0, r01, r02, r3, r4, r5, r6, r7, r8, r9⟩, ⟨q1, q2, q3, q4, q5, q6, q7, q8, q9⟩, -⟩, -, -⟩ := t1
  unfold f_TR_pathTo
  rw [r4, q4, ix_nI hj (by decide), Option.bind_some, a4, r0, r01, q1, ix_nI b3 (by decide), Option.bind_some, r6, q6, ix_nI hj (by decide), Option.bind_some, a6, b1, PA_front_eq b4 (by rw [List.length_append]; omega), List.take_left]
theorem wp_loop (hk : nb key) (hw : ∀ j, j < 4 → w ≠ u (9 + j)) (hG : G w = 199) : ∀ (l : List Rec) (i f : Nat) (ws : List Int64) (M : Mm), TrI G M z u L → WrS u M0 M 0 w 0 ws → (brs L).drop i = l → i ≤ (brs L).length → (ws ++ l.flatMap (cw key)).length ≤ 199 → ∃ M2, f_TR_writeProof_29 G (l.length + f + 1) z (nI (num key)) w (nI ws.length) (nI i) M = some (nI (ws ++ l.flatMap (cw key)).length, M2) ∧ WrS u M0 M2 0 w 0 (ws ++ l.flatMap (cw key)) := by
  intro l
  induction l with
  | nil =>
    intro i f ws M h hws hd hi hc
    have hb := brs_len h.1.2.2 h.1.2.1.1
    have la := congrArg List.length hd
    rw [List.length_drop] at la
    simp at la
    refine ⟨M, ?_, ?_⟩
    · rw [f_TR_writeProof_29, h.2.2.2.1, if_pos (nI_le (by omega) (by omega)), List.flatMap_nil, List.append_nil]
    · rw [List.flatMap_nil, List.append_nil]
      exact hws
  | cons r l ih =>
    intro i f ws M h hws hd hi hc
    have hb := brs_len h.1.2.2 h.1.2.1.1
    obtain ⟨hlt, he, hr⟩ := drop_at hd
    have e1 : (brs L)[i]? = some r := by rw [List.getElem?_eq_getElem hlt, he]
    obtain ⟨hj, hl⟩ := rec_len h e1
    obtain ⟨a4, a5, a6, a3⟩ := h.2.2.2.2 i r e1
    have hL := h.1.2.2
    obtain ⟨o1, o2, o3⟩ := brs_ok hL r (List.mem_of_getElem? e1)
    have hQ := isBr_nb hL o2
    have hA : Srt r.2.1 := by rw [o1]; exact srt_rl hL _
    have h1 : 1 ≤ r.2.1.length := by rw [o1]; have := o2.1; omega
    have t1 := h.1
    obtain ⟨⟨⟨r0, r01, r02, r3, r4, r5, r6, r7, r8, r9⟩, ⟨q1, q2, q3, q4, q5, q6, q7, q8, q9⟩, -⟩, -, -⟩ := t1
    rw [List.flatMap_cons] at hc ⊢
    rw [show (r :: l).length + f + 1 = (l.length + f + 1) + 1 by simp; omega, f_TR_writeProof_29, h.2.2.2.1, if_neg (nI_ge hlt (by omega)), pathTo_eq h e1, Option.bind_some, PA_begins_eq hk hQ.1]
    by_cases c : r.1 <+: key
    · have ec : cw key r = encW dg r.2.1 := by unfold cw; rw [if_pos c]
      rw [ec] at hc ⊢
      have hc2 : ws.length + (encW dg r.2.1).length ≤ 199 := by
        rw [List.length_append, List.length_append] at hc
        omega
      obtain ⟨M1, e2, w2⟩ := wb_eq h.1 (FR_eq RD (r.1.length + 1) (by omega) (by unfold RD; omega)) hA o3 h1 hQ.2 (fun j _ hj => hw j hj) (by omega) (show ws.length + (encW dg r.2.1).length ≤ G w by omega)
      have w3 := hws.app (s := 0) (by rw [Nat.zero_add]; exact w2.up (Nat.zero_le _))
      rw [← List.append_assoc] at hc ⊢
      obtain ⟨M2, e3, w4⟩ := ih (i + 1) f (ws ++ encW dg r.2.1) M1 (h.mv w2.1 w2.2.1) w3 hr (by omega) hc
      refine ⟨M2, ?_, w4⟩
      rw [if_pos c, if_neg (by decide), r4, q4, ix_nI hj (by decide), Option.bind_some, r5, q5, ix_nI hj (by decide), Option.bind_some, r6, q6, ix_nI hj (by decide), Option.bind_some, a4, a5, a6, e2, Option.bind_some, nI_add, nI_1, ← List.length_append]
      exact e3
    · have ec : cw key r = [] := by unfold cw; rw [if_neg c]
      rw [ec, List.nil_append] at hc ⊢
      obtain ⟨M2, e3, w4⟩ := ih (i + 1) f ws M h hws hr (by omega) hc
      refine ⟨M2, ?_, w4⟩
      rw [if_neg c, if_pos rfl, nI_1]
      exact e3
theorem wproof_eq (h : TrI G M z u L) (hk : nb key) (hw : ∀ j, j < 4 → w ≠ u (9 + j)) (hG : G w = 199) : ∃ M2, f_TR_writeProof G z (nI (num key)) w M = some (nI (prW key L).length, M2) ∧ WrS u M M2 0 w 0 (prW key L) := by
  have hL := h.1.2.2
  have hb := brs_len hL h.1.2.1.1
  obtain ⟨e0, l0⟩ := words_eq hL key
  have hr := ref_len dg L
  obtain ⟨M1, e1, w1⟩ := top_eq (s := 1) h.1 hw (show 1 + (refW dg L).length ≤ G w by omega) (by omega)
  have w2 : WrS u M (sl M1 w 0 (nI (refW dg L).length).toInt64) 0 w 0 (hdw L) := w1.cons
  obtain ⟨M2, e2, w3⟩ := wp_loop hk hw hG (brs L) 0 (4095 - (brs L).length) (hdw L) _ (h.mv w2.1 w2.2.1) w2 rfl (by omega) (by rw [e0]; exact l0)
  rw [e0] at e2 w3
  refine ⟨M2, ?_, w3⟩
  rw [show (brs L).length + (4095 - (brs L).length) + 1 = FU by unfold FU; omega, nI_0] at e2
  rw [show nI 1 = (1 : Int32) from rfl] at e1
  have hl : (hdw L).length = 1 + (refW dg L).length := by unfold hdw; rw [List.length_cons, Nat.add_comm]
  have e1c : (1 : Int32) + nI (refW dg L).length = nI (hdw L).length := by rw [hl]; exact nI_add 1 _
  have ix0 : ix 0 199 = some 0 := by decide
  unfold f_TR_writeProof
  rw [e1, Option.bind_some, hG, ix0, Option.bind_some, st_eq, e1c]
  exact e2
end CP
/-! The reference's side. -/
section MP2
variable {G : Nat → Nat} {M M2 : Mm} {mo m : Nat} {um : Nat → Nat} {K L : List Ent} {ps : List (List Nat)} {pr ws : List Int64} {key : List Nat}
theorem MpS.fr (hm : MpS G M mo um m K L) (s1 : M2.2.2 = M.2.2) (s2 : ∀ c, c ≠ mo → M2.1 c = M.1 c) : MpS G M2 mo um m K L := by
  have n := hm.1.ne
  exact ⟨hm.1.ref s1, hm.2.1, hm.2.2.1.of (s2 _ n.1) (s2 _ n.2.1) (s2 _ n.2.2.1), hm.2.2.2⟩
theorem Mb.fr (h : Mb G M mo um m K L ps) (s1 : M2.2.2 = M.2.2) (s2 : ∀ c, c ≠ mo → M2.1 c = M.1 c) (s3 : ∀ c, c ≠ mo → c ≠ um 6 → c ≠ um 7 → M2.2.1 c = M.2.1 c) : Mb G M2 mo um m K L ps := by
  obtain ⟨hm, hp, hd, hn, hc⟩ := h
  have n := hm.1.ne
  have hR := hm.1
  obtain ⟨-, -, -, -, -, -, -, -, -, -, -, -, -, -, -, -, -, -, -, -, -, -, -, -, -, -, -, -, -, -, -, -, -, -, y4, -, -⟩ := hR
  refine ⟨hm.fr s1 s2, ?_, ?_, hn, hc⟩
  · unfold PlS gi at *
    rw [s2 _ n.2.2.2.1, s2 _ n.2.2.2.2.1]
    exact hp
  · unfold PlD gl at *
    rw [s3 _ (fun z => y4 z.symm) n.2.2.2.2.2.1 n.2.2.2.2.2.2.2]
    exact hd
theorem Mb.ap (h : Mb G M mo um m K L ps) (s : Ap mo um M M2) : Mb G M2 mo um m K L ps := h.fr s.1 s.2.1 s.2.2.2
theorem MpS.ap (hm : MpS G M mo um m K L) (s : Ap mo um M M2) : MpS G M2 mo um m K L := hm.fr s.1 s.2.1
theorem PwS.say (hR : ModelR G M mo um) (h : PwS M mo um pr) (s : Say mo um M M2) : PwS M2 mo um pr := by
  refine ⟨?_, fun i x hx => ?_⟩
  · show M2.1 mo 11 = _
    rw [s.2.2.1 11 (by decide)]
    exact h.1
  · show M2.2.1 (um 7) i = x
    rw [s.2.2.2 _ hR.ne.2.2.2.2.2.2.1]
    exact h.2 i x hx
theorem PwS.push (h : PwS M mo um pr) (x : Int64) : PwS (si (sl M (um 7) pr.length x) mo 11 (nI pr.length + 1)) mo um (pr ++ [x]) := by
  refine ⟨by rw [gi_si, if_pos ⟨rfl, rfl⟩, nI_1, List.length_append]; rfl, fun i y hy => ?_⟩
  rw [gl_si, gl_sl, if_self]
  by_cases c : i = pr.length
  · subst c
    rw [List.getElem?_append_right (Nat.le_refl _), Nat.sub_self] at hy
    rw [if_pos rfl]
    exact Option.some.inj hy
  · have hi : i < pr.length := by
      have := (List.getElem?_eq_some_iff.mp hy).1
      rw [List.length_append, List.length_singleton] at this
      omega
    rw [List.getElem?_append_left hi] at hy
    rw [if_neg c]
    exact h.2 i y hy
theorem app_loop : ∀ (r : List Int64) (i f : Nat) (pr : List Int64) (M : Mm), ws.drop i = r → i ≤ ws.length → ws.length ≤ 64 → ModelR G M mo um → WdS M mo um ws → PwS M mo um pr → pr.length + r.length ≤ 256 → ∃ M2, f_MO_append_2 G (r.length + f + 1) mo (nI i) M = some M2 ∧ PwS M2 mo um (pr ++ r) ∧ Ap mo um M M2 := by
  intro r
  induction r with
  | nil =>
    intro i f pr M hd hi h64 hR hw hp hl
    have la := congrArg List.length hd
    rw [List.length_drop] at la
    simp at la
    refine ⟨M, ?_, ?_, Ap.rf⟩
    · rw [f_MO_append_2, hw.1, if_pos (nI_le (by omega) (by omega))]
    · rw [List.append_nil]; exact hp
  | cons x r ih =>
    intro i f pr M hd hi h64 hR hw hp hl
    obtain ⟨hlt, he, hr⟩ := drop_at hd
    have e1 : ws[i]? = some x := by rw [List.getElem?_eq_getElem hlt, he]
    have hx := hR
    obtain ⟨q0, q1, q2, q3, q4, q5, q6, q7, g0, g1, g2, g3, g4, g5, g6, g7, -⟩ := hx
    rw [List.length_cons] at hl
    have n := hR.ne
    have hw2 : WdS (si (sl M (um 7) pr.length x) mo 11 (nI pr.length + 1)) mo um ws := ⟨by rw [gi_si, if_neg (fun q => by have := q.2; omega)]; exact hw.1, fun j y hy => by
      rw [gl_si, gl_sl, if_neg (fun q => n.2.2.2.2.2.2.1 q.1.symm)]
      exact hw.2 j y hy⟩
    obtain ⟨M2, e2, p2, a2⟩ := ih (i + 1) f (pr ++ [x]) _ hr (by omega) h64 (hR.ref (M2 := si (sl M (um 7) pr.length x) mo 11 (nI pr.length + 1)) rfl) hw2 (hp.push x) (by rw [List.length_append, List.length_singleton]; omega)
    have aM : Ap mo um M (si (sl M (um 7) pr.length x) mo 11 (nI pr.length + 1)) := by
      refine ⟨rfl, fun c hc => si_ne hc, fun j hj => ?_, fun c _ _ hc => ?_⟩
      · show gi (si (sl M (um 7) pr.length x) mo 11 (nI pr.length + 1)) mo j = gi M mo j
        rw [gi_si, if_neg (fun q => by have := q.2; omega)]
        rfl
      · show (sl M (um 7) pr.length x).2.1 c = M.2.1 c
        rw [sl_ne hc]
    refine ⟨M2, ?_, by rw [List.append_assoc] at p2; exact p2, aM.tr a2⟩
    rw [show (x :: r).length + f + 1 = (r.length + f + 1) + 1 by simp; omega, f_MO_append_2, hw.1, if_neg (nI_ge hlt (by omega)), q6, g6, ix_nI (show i < 64 by omega) (by decide), Option.bind_some, hp.1, q7, g7, ix_nI (show pr.length < 256 by omega) (by decide), Option.bind_some, hw.2 i x e1]
    simp only [st]
    rw [gi_sl, hp.1, nI_1 i]
    exact e2
theorem app_eq (hR : ModelR G M mo um) (hw : WdS M mo um ws) (hp : PwS M mo um pr) (hl : pr.length + ws.length ≤ 256) (h64 : ws.length ≤ 64) : ∃ M2, f_MO_append G mo M = some M2 ∧ PwS M2 mo um (pr ++ ws) ∧ Ap mo um M M2 := by
  obtain ⟨M2, e, p, a⟩ := app_loop ws 0 (4095 - ws.length) pr M rfl (by omega) h64 hR hw hp hl
  rw [show ws.length + (4095 - ws.length) + 1 = FU by unfold FU; omega, nI_0] at e
  exact ⟨M2, e, p, a⟩
theorem pv_loop (hk : nb key) {k : Nat} (hmk : k + 1 = m) : ∀ (s v f : Nat) (pr : List Int64) (M : Mm), v + s = key.length + 1 → Mb G M mo um m K L ps → PwS M mo um pr → (pr ++ (List.range' v s).flatMap (hwd key L)).length ≤ 199 → ∃ M2, f_MO_prove_45 G (s + f + 1) mo (nI k) (nI (num key)) (nI key.length) (nI v) M = some (nI (pr ++ (List.range' v s).flatMap (hwd key L)).length, M2) ∧ PwS M2 mo um (pr ++ (List.range' v s).flatMap (hwd key L)) ∧ Ap mo um M M2 := by
  have hkl := hk.1
  have hsm := num_sm hk
  intro s
  induction s with
  | zero =>
    intro v f pr M hv h hp hl
    refine ⟨M, ?_, ?_, Ap.rf⟩
    · rw [f_MO_prove_45, if_pos (nI_lt (by omega) (by omega)), hp.1]
      simp
    · simpa using hp
  | succ s ih =>
    intro v f pr M hv h hp hl
    have hL := h.1.2.2.2.2
    have hnt := nb_take hk v
    have hft : num key / 16 ^ (key.length - v) = num (key.take v) := num_front hk.2 (by omega)
    rw [List.range'_succ, List.flatMap_cons] at hl ⊢
    rw [show s + 1 + f + 1 = (s + f + 1) + 1 by omega, f_MO_prove_45, if_neg (nI_nlt (by omega) (by omega)), nI_sub' (by omega), sh_r (by omega) (by omega), hft]
    simp only [st]
    rw [nI_1 k, hmk]
    rcases place_or h.1.1 h.1.2.1 h.2.1 hnt with ⟨x1, x2⟩ | ⟨j, hj, x1, x2⟩
    · have hn : ¬ isBr L (key.take v) := fun z => x2 ((h.2.2.2.2 _).mpr z)
      have eh : hwd key L v = [] := by unfold hwd; rw [if_neg hn]
      rw [eh, List.nil_append] at hl ⊢
      obtain ⟨M2, e2, p2, a2⟩ := ih (v + 1) f pr M (by omega) h hp hl
      refine ⟨M2, ?_, p2, a2⟩
      rw [x1, Option.bind_some, if_pos (by decide), nI_1]
      exact e2
    · have hy : isBr L (key.take v) := (h.2.2.2.2 _).mp (List.mem_of_getElem? x1)
      have eh : hwd key L v = encW dg (rl (key.take v) L) := by unfold hwd; rw [if_pos hy]
      rw [eh] at hl ⊢
      have hm4 := h.1.2.1
      have hel := enc_len dg (rl (key.take v) L)
      have s0 : Say mo um M (si M mo 9 0) := zero_say
      have h0 := h.say s0
      obtain ⟨N, e1, s1, w1⟩ := encode_eq h0.1 h0.2.1 h0.2.2.1 zero_wd hnt (isBr_nb hL hy).2 (fun c hc h2 => (h.2.2.2.2 _).mpr (isBr_brQ hL h2))
      have sN := s0.tr s1
      have hN := h.say sN
      have hcl : pr.length + (encW dg (rl (key.take v) L)).length ≤ 199 := by
        rw [List.length_append, List.length_append] at hl
        omega
      obtain ⟨N2, e2, p2, a2⟩ := app_eq hN.1.1 w1 (hp.say h.1.1 sN) (by omega) (by omega)
      rw [← List.append_assoc] at hl ⊢
      obtain ⟨M2, e3, p3, a3⟩ := ih (v + 1) f _ N2 (by omega) (hN.ap a2) p2 hl
      refine ⟨M2, ?_, p3, sN.ap.tr (a2.tr a3)⟩
      rw [x2, Option.bind_some, if_neg (nI_pos (by omega)), e1, Option.bind_some, e2, Option.bind_some, nI_1]
      exact e3
theorem mprove_eq (hk : nb key) {k n : Nat} (hn : n ≤ 3) (hkn : k < n) (h3 : gi M mo 3 = nI n) (h : Mb G M mo um (k + 1) K L ps) : ∃ M2, f_MO_prove G mo (nI k) (nI (num key)) M = some (nI (prW key L).length, M2) ∧ PwS M2 mo um (prW key L) ∧ Ap mo um M M2 := by
  have hL := h.1.2.2.2.2
  have n1 := h.1.1.ne
  obtain ⟨-, l0⟩ := words_eq hL key
  have hr := ref_len dg L
  have hkl := hk.1
  have iv : f_MO_isVersion G mo (nI k) M = 1 := by
    unfold f_MO_isVersion
    rw [if_neg (nI_pos (by omega)), h3, if_neg (nI_ge hkn (by omega))]
  have hv0 : 0 ≤ f_MO_nibbles (nI (num key)) := by rw [MO_nibs hk]; exact nI_pos' (by omega)
  have aA : Ap mo um M (si (si M mo 11 0) mo 9 0) := ⟨rfl, fun c hc => by rw [si_ne hc, si_ne hc], fun j hj => by
    show gi (si (si M mo 11 0) mo 9 0) mo j = gi M mo j
    rw [gi_si, if_neg (fun q => by have := q.2; omega), gi_si, if_neg (fun q => by have := q.2; omega)], fun _ _ _ _ => rfl⟩
  have hA := h.ap aA
  have pA : PwS (si (si M mo 11 0) mo 9 0) mo um [] := ⟨by rw [gi_si, if_neg (fun q => by have := q.2; omega), gi_si, if_pos ⟨rfl, rfl⟩]; rfl, fun i x hx => by simp at hx⟩
  have hnil : nb [] := ⟨by simp, fun d hd => (by cases hd)⟩
  obtain ⟨N, e1, s1, w1⟩ := ref1_eq hA.1 hA.2.1 hA.2.2.1 zero_wd (by simp) hnil (fun h2 => (h.2.2.2.2 _).mpr (isBr_brQ hL h2))
  rw [rl_nil, List.nil_append] at w1
  have hN := hA.say s1
  obtain ⟨N2, e2, p2, a2⟩ := app_eq hN.1.1 w1 (pA.say hA.1.1 s1) (by simp; omega) (by simp; omega)
  rw [List.nil_append] at p2
  obtain ⟨M2, e3, p3, a3⟩ := pv_loop hk rfl (key.length + 1) 0 (4094 - key.length) (hdw L) N2 (by omega) (hN.ap a2) p2 l0
  refine ⟨M2, ?_, p3, aA.tr (s1.ap.tr (a2.tr a3))⟩
  rw [show key.length + 1 + (4094 - key.length) + 1 = FU by unfold FU; omega, nI_0] at e3
  unfold f_MO_prove
  rw [iv, if_neg (by decide), if_pos hv0, MO_nibs hk]
  simp only [st]
  have e1 : f_MO_reference G mo (nI (k + 1)) 1 1 (si (si M mo 11 0) mo 9 0) = some N := e1
  rw [nI_1, e1, Option.bind_some, e2, Option.bind_some]
  exact e3
end MP2
