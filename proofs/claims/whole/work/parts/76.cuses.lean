/-! The class: how often a branch is used. -/
theorem lsk_par {A : List Ent} {g : Nat → Nat → Nat → List Rec} {pp : Int32} (hg : ∀ c row i, ∀ r ∈ g c row i, r.2.2.2 = pp ∨ ∃ j, i ≤ j ∧ j < i + (g c row i).length ∧ r.2.2.2 = nI j) : ∀ (n c row i : Nat), ∀ r ∈ lsk g A n c row i, r.2.2.2 = pp ∨ ∃ j, i ≤ j ∧ j < i + (lsk g A n c row i).length ∧ r.2.2.2 = nI j := by
  intro n
  induction n with
  | zero => intro c row i r hr; rw [lsk] at hr; cases hr
  | succ n ih =>
    intro c row i r hr
    rw [lsk] at hr ⊢
    rw [List.length_append]
    rcases List.mem_append.mp hr with h | h
    · rcases hg c row i r h with e | ⟨j, a, b, e⟩
      · exact Or.inl e
      · exact Or.inr ⟨j, a, by omega, e⟩
    · rcases ih (c + 1) _ (i + (g c row i).length) r h with e | ⟨j, a, b, e⟩
      · exact Or.inl e
      · exact Or.inr ⟨j, by omega, by omega, e⟩
theorem lsr_par : ∀ (n : Nat) (P : List Nat) (A : List Ent) (fr i : Nat) (par : Int32), ∀ r ∈ lsr n P A fr i par, r.2.2.2 = par ∨ ∃ j, i ≤ j ∧ j < i + (lsr n P A fr i par).length ∧ r.2.2.2 = nI j := by
  intro n
  induction n with
  | zero => intro P A fr i par r hr; rw [lsr] at hr; cases hr
  | succ n ih =>
    intro P A fr i par r hr
    rw [lsr] at hr ⊢
    by_cases c : A.length ≤ 1
    · rw [if_pos c] at hr; cases hr
    · rw [if_neg c] at hr ⊢
      rw [List.length_cons]
      rcases List.mem_cons.mp hr with rfl | h
      · exact Or.inl rfl
      · rcases lsk_par (pp := nI i) (fun c row j r hr => ih _ _ _ _ _ r hr) _ _ _ _ r h with e | ⟨j, a, b, e⟩
        · exact Or.inr ⟨i, by omega, by omega, e⟩
        · exact Or.inr ⟨j, by omega, by omega, e⟩
theorem brs_par {L : List Ent} : ∀ r ∈ brs L, r.2.2.2 = -1 ∨ ∃ j s, (brs L)[j]? = some s ∧ r.2.2.2 = nI j := by
  intro r hr
  rcases lsr_par RD [] L 0 0 (-1) r hr with e | ⟨j, a, b, e⟩
  · exact Or.inl e
  · have hj : j < (brs L).length := by show j < (lsr RD [] L 0 0 (-1)).length; omega
    exact Or.inr ⟨j, _, List.getElem?_eq_getElem hj, e⟩
def tt (d : Int64) (B : List Ent) : Nat := if B.length ≤ 1 then 0 else if dg (brA B) = d then 1 else 0
def TT (d : Int64) (A : List Ent) : Nat := ((List.range' 0 16).map (fun c => tt d (sub c A))).sum
def FstP (KL : Nat → List Ent) (q : Nat) (p : Int32) : Prop := ∃ (j : Nat) (s : Rec), p = nI j ∧ (brs (KL q))[j]? = some s ∧ s.2.1 ∉ (kd (KL q)).take j ++ vsn KL q
noncomputable def fu (KL : Nat → List Ent) (d : Int64) (q : Nat) (p : Int32) (A : List Ent) : Nat := @ite Nat ((p = -1 ∨ FstP KL q p) ∧ dg A = d) (Classical.propDecidable _) 1 0
theorem fu_yes {KL : Nat → List Ent} {d : Int64} {q : Nat} {p : Int32} {A : List Ent} (h : p = -1 ∨ FstP KL q p) : fu KL d q p A = if dg A = d then 1 else 0 := by
  unfold fu
  by_cases c : dg A = d
  · rw [if_pos ⟨h, c⟩, if_pos c]
  · rw [if_neg (fun z => c z.2), if_neg c]
theorem fu_no {KL : Nat → List Ent} {d : Int64} {q : Nat} {p : Int32} {A : List Ent} (h : ¬ (p = -1 ∨ FstP KL q p)) : fu KL d q p A = 0 := by
  unfold fu
  rw [if_neg (fun z => h z.1)]
theorem top_yes {KL : Nat → List Ent} {d : Int64} {q : Nat} {p : Int32} (h : p = -1 ∨ FstP KL q p) (B : List Ent) : top (fu KL d q) p B = tt d B := by
  unfold top tt
  rw [fu_yes h]
theorem top_no {KL : Nat → List Ent} {d : Int64} {q : Nat} {p : Int32} (h : ¬ (p = -1 ∨ FstP KL q p)) (B : List Ent) : top (fu KL d q) p B = 0 := by
  unfold top
  rw [fu_no h]
  by_cases c : B.length ≤ 1
  · rw [if_pos c]
  · rw [if_neg c]
theorem sum_zero {α : Type} {f : α → Nat} : ∀ {l : List α}, (∀ x ∈ l, f x = 0) → (l.map f).sum = 0 := by
  intro l
  induction l with
  | nil => intro _; rfl
  | cons a l ih =>
    intro h
    rw [List.map_cons, List.sum_cons, h a List.mem_cons_self, ih (fun x hx => h x (List.mem_cons_of_mem _ hx))]
theorem sumT_f {KL : Nat → List Ent} {d : Int64} {q : Nat} (hb : (brs (KL q)).length ≤ 15) : ∀ (l : List Rec) (i : Nat), (brs (KL q)).drop i = l → sumT (fu KL d q) i l = fsum (TT d) ((kd (KL q)).take i ++ vsn KL q) (l.map (fun r => r.2.1)) := by
  intro l
  induction l with
  | nil => intro i _; rw [sumT, List.map_nil, fsum_nil]
  | cons s l ih =>
    intro i hd
    obtain ⟨hlt, he, hr⟩ := drop_at hd
    have e1 : (brs (KL q))[i]? = some s := by rw [List.getElem?_eq_getElem hlt, he]
    have es := fsum_seen (g := TT d) (l.map (fun r => r.2.1)) _ _ (take_mem e1 (V := vsn KL q))
    rw [sumT, ih (i + 1) hr, List.map_cons]
    by_cases c : s.2.1 ∈ (kd (KL q)).take i ++ vsn KL q
    · rw [fsum_in c, es]
      have hno : ¬ (nI i = (-1 : Int32) ∨ FstP KL q (nI i)) := by
        rintro (z | ⟨j, s', z, ej, hj⟩)
        · exact m1_ne (by omega) z
        · have hj2 := (List.getElem?_eq_some_iff.mp ej).1
          have : i = j := (nI_eq (by omega) (by omega)).mp z
          subst this
          rw [e1] at ej
          rw [← Option.some.inj ej] at hj
          exact hj c
      have : kt (fu KL d q) (nI i) s.2.1 = 0 := by
        unfold kt
        exact sum_zero (fun x _ => top_no hno _)
      rw [this, Nat.zero_add]
    · rw [fsum_out c, es]
      have hy : nI i = (-1 : Int32) ∨ FstP KL q (nI i) := Or.inr ⟨i, s, rfl, e1, c⟩
      have : kt (fu KL d q) (nI i) s.2.1 = TT d s.2.1 := by
        unfold kt TT
        congr 1
        exact List.map_congr_left (fun x _ => top_yes hy _)
      rw [this]
theorem sum_fu {KL : Nat → List Ent} {d : Int64} {q : Nat} (hL : Srt (KL q)) (hb : (brs (KL q)).length ≤ 15) : ((brs (KL q)).map (fun r => fu KL d q r.2.2.2 r.2.1)).sum = tt d (KL q) + fsum (TT d) (vsn KL q) (kd (KL q)) := by
  rw [brs_t hL, top_yes (Or.inl rfl), sumT_f hb (brs (KL q)) 0 rfl, List.take_zero, List.nil_append]
  rfl
theorem sum_vs {KL : Nat → List Ent} {d : Int64} : ∀ (r q : Nat), (∀ i, i < q + r → Srt (KL i) ∧ (brs (KL i)).length ≤ 15) → ((List.range' q r).map (fun q => ((brs (KL q)).map (fun r => fu KL d q r.2.2.2 r.2.1)).sum)).sum = ((List.range' q r).map (fun q => tt d (KL q))).sum + fsum (TT d) (vsn KL q) ((List.range' q r).flatMap (fun i => kd (KL i))) := by
  intro r
  induction r with
  | zero => intro q _; simp [fsum]
  | succ r ih =>
    intro q h
    have es : fsum (TT d) (vsn KL (q + 1)) ((List.range' (q + 1) r).flatMap (fun i => kd (KL i))) = fsum (TT d) (kd (KL q) ++ vsn KL q) ((List.range' (q + 1) r).flatMap (fun i => kd (KL i))) := fsum_seen _ _ _ (fun B => by
      rw [vsn_succ, List.mem_append, List.mem_append]
      exact or_comm)
    rw [List.range'_succ, List.map_cons, List.sum_cons, List.map_cons, List.sum_cons, List.flatMap_cons, fsum_app, ih (q + 1) (fun i hi => h i (by omega)), sum_fu (h q (by omega)).1 (h q (by omega)).2, es]
    omega
section CU
variable {G : Nat → Nat} {M M2 : Mm} {x k z : Nat} {b t u : Nat → Nat} {uu : Nat → Nat → Nat} {sg : Nat → Nat} {W L : List Ent} {KL : Nat → List Ent} {n : Nat}
theorem digOf_eq (h : TrI G M z u L) {j : Nat} {r : Rec} (e : (brs L)[j]? = some r) : ∃ M2, f_TR_digestOf G z (nI j) M = some (dg r.2.1, M2) ∧ M2.1 = M.1 ∧ M2.2.2 = M.2.2 ∧ ∀ c, (∀ j, j < 4 → c ≠ u (9 + j)) → M2.2.1 c = M.2.1 c := by
  obtain ⟨hj, hl⟩ := rec_len h e
  obtain ⟨a4, a5, a6, a3⟩ := h.2.2.2.2 j r e
  have hL := h.1.2.2
  obtain ⟨o1, o2, o3⟩ := brs_ok hL r (List.mem_of_getElem? e)
  have hQ := (isBr_nb hL o2).2
  have hA : Srt r.2.1 := by rw [o1]; exact srt_rl hL _
  have h1 : 1 ≤ r.2.1.length := by rw [o1]; have := o2.1; omega
  obtain ⟨M2, e2, m1, m2, m3⟩ := bd_eq h.1 (FR_eq RD (r.1.length + 1) (by omega) (by unfold RD; omega)) hA o3 h1 hQ
  refine ⟨M2, ?_, m1, m2, fun c hc => m3 c (fun j _ hj => hc j hj)⟩
  have t1 := h.1
  obtain ⟨⟨⟨r0, r01, r02, r3, r4, r5, r6, r7, r8, r9⟩, ⟨q1, q2, q3, q4, q5, q6, q7, q8, q9⟩, -⟩, -, -⟩ := t1
  have i1 : ix (nI j) 15 = some j := ix_nI hj (by decide)
  unfold f_TR_digestOf
  rw [r4, q4, i1, Option.bind_some, r5, q5, i1, Option.bind_some, r6, q6, i1, Option.bind_some, a4, a5, a6, e2]
  rfl
theorem TrI.mv (h : TrI G M z u L) (h1 : M2.1 = M.1) (h2 : M2.2.2 = M.2.2) : TrI G M2 z u L := h.off h2 (by rw [h1]) (fun i _ => by rw [h1])
theorem CS.mv (h : CS G M x k b t uu sg W KL n) (h1 : M2.1 = M.1) (h2 : M2.2.2 = M.2.2) : CS G M2 x k b t uu sg W KL n := by
  have g : ∀ a j, gr M2 a j = gr M a j := fun a j => by show M2.2.2 a j = M.2.2 a j; rw [h2]
  have gg : ∀ a j, gi M2 a j = gi M a j := fun a j => by show M2.1 a j = M.1 a j; rw [h1]
  obtain ⟨⟨c1, c2, c3, c4, c5, c6⟩, d2, d3, d4, d5, d6, d7⟩ := h
  exact ⟨⟨(g _ _).trans c1, (g _ _).trans c2, (g _ _).trans c3, (g _ _).trans c4, c5, c6⟩, (gg _ _).trans d2, d3, fun i hi => ⟨(d4 i hi).1, (d4 i hi).2.1, (g _ _).trans (d4 i hi).2.2⟩, d5, d6.mv h1 h2, fun i hi => (d7 i hi).mv h1 h2⟩
/-- words of the tries alone change -/
def Mvd (b : Nat → Nat) (M M2 : Mm) : Prop := M2.1 = M.1 ∧ M2.2.2 = M.2.2 ∧ M2.2.1 (b 2) = M.2.1 (b 2)
theorem Mvd.rf : Mvd b M M := ⟨rfl, rfl, rfl⟩
theorem Mvd.tr {M1 : Mm} (h : Mvd b M M1) (g : Mvd b M1 M2) : Mvd b M M2 := ⟨g.1.trans h.1, g.2.1.trans h.2.1, g.2.2.trans h.2.2⟩
theorem isUse_eq (h : CS G M x k b t uu sg W KL n) (hk3 : k ≤ 3) {q j : Nat} (hq : q < n) {s : Rec} (e : (brs (KL q))[j]? = some s) : Ans (f_NT_isUse G x (nI q) (nI j) M) (s.2.2.2 = -1 ∨ FstP KL q s.2.2.2) := by
  obtain ⟨p1, p2, p3⟩ := h.tri hk3 hq
  obtain ⟨hj, hl⟩ := rec_len p3 e
  obtain ⟨a4, a5, a6, a3⟩ := p3.2.2.2.2 j s e
  have hb := brs_len p3.1.2.2 p3.1.2.1.1
  have t1 := p3.1
  obtain ⟨⟨⟨r0, r01, r02, r3, r4, r5, r6, r7, r8, r9⟩, ⟨q1, q2, q3, q4, q5, q6, q7, q8, q9⟩, -⟩, -, -⟩ := t1
  unfold f_NT_isUse
  rw [p1, Option.bind_some, p2, r3, q3, ix_nI hj (by decide), Option.bind_some, a3]
  simp only [st]
  rcases brs_par s (List.mem_of_getElem? e) with c | ⟨i, s', ei, c⟩
  · rw [if_pos c]
    exact Or.inl ⟨rfl, Or.inl c⟩
  · have hi := (List.getElem?_eq_some_iff.mp ei).1
    have hne : ¬ s.2.2.2 = -1 := by rw [c]; exact m1_ne (by omega)
    rw [if_neg hne, c]
    rcases first_eq h hk3 hq ei with ⟨a, d⟩ | ⟨a, d⟩
    · rw [a, Option.bind_some, if_neg (by decide)]
      exact Or.inl ⟨rfl, Or.inr ⟨i, s', rfl, ei, d⟩⟩
    · rw [a, Option.bind_some, if_pos rfl]
      refine Or.inr ⟨rfl, ?_⟩
      rintro (z | ⟨j', s2, z, ej, hd⟩)
      · exact m1_ne (by omega) z
      · have hj2 := (List.getElem?_eq_some_iff.mp ej).1
        have : i = j' := (nI_eq (by omega) (by omega)).mp z
        subst this
        rw [ei] at ej
        rw [← Option.some.inj ej] at hd
        exact d hd
theorem us17_loop (hD : Dst x k b t uu) (hk3 : k ≤ 3) {d : Int64} {k5 : Nat → Int64 → Int32 → Int32 → Mm → Option (Int32 × Mm)} {q : Nat} (hq : q < n) : ∀ (l : List Rec) (i f c : Nat) (M : Mm), CS G M x k b t uu sg W KL n → (brs (KL q)).drop i = l → i ≤ (brs (KL q)).length → ∃ M2, f_NT_uses_17 G k5 (l.length + f + 1) x d (nI c) (nI q) (nI i) M = k5 x d (nI (c + (l.map (fun r => fu KL d q r.2.2.2 r.2.1)).sum)) (nI (q + 1)) M2 ∧ Mvd b M M2 := by
  intro l
  induction l with
  | nil =>
    intro i f c M h hd hi
    obtain ⟨p1, p2, p3⟩ := h.tri hk3 hq
    have hb := brs_len p3.1.2.2 p3.1.2.1.1
    have la := congrArg List.length hd
    rw [List.length_drop] at la
    simp at la
    refine ⟨M, ?_, Mvd.rf⟩
    rw [f_NT_uses_17, p1, Option.bind_some, p2, p3.2.2.2.1, if_pos (nI_le (by omega) (by omega)), List.map_nil, List.sum_nil, Nat.add_zero, nI_1]
  | cons s l ih =>
    intro i f c M h hd hi
    obtain ⟨p1, p2, p3⟩ := h.tri hk3 hq
    have hb := brs_len p3.1.2.2 p3.1.2.1.1
    obtain ⟨hlt, he, hr⟩ := drop_at hd
    have e1 : (brs (KL q))[i]? = some s := by rw [List.getElem?_eq_getElem hlt, he]
    rcases isUse_eq h hk3 hq e1 with ⟨a, c1⟩ | ⟨a, c1⟩
    · obtain ⟨M1, e2, m1, m2, m3⟩ := digOf_eq p3 e1
      have hs := (h.2.2.2.1 q (by have := h.2.2.1; omega))
      have mv : Mvd b M M1 := ⟨m1, m2, m3 _ (fun j hj => hD.2.2.2.2.2.2.2.1 2 (sg q) (9 + j) (by omega) hs.2.1 (by omega))⟩
      obtain ⟨M2, e3, m4⟩ := ih (i + 1) f (c + fu KL d q s.2.2.2 s.2.1) M1 (h.mv m1 m2) hr (by omega)
      refine ⟨M2, ?_, mv.tr m4⟩
      rw [show (s :: l).length + f + 1 = (l.length + f + 1) + 1 by simp; omega, f_NT_uses_17, p1, Option.bind_some, p2, p3.2.2.2.1, if_neg (nI_ge hlt (by omega)), a, Option.bind_some, if_neg (by decide), Option.bind_some, p2, e2, Option.bind_some, List.map_cons, List.sum_cons, ← Nat.add_assoc, ← e3, fu_yes c1]
      dsimp only
      by_cases g : dg s.2.1 = d
      · rw [if_pos (lg_eq.mpr g), if_pos g, nI_1, nI_1]
      · rw [if_neg (fun w => g (lg_eq.mp w)), if_neg g, nI_1, Nat.add_zero c]
    · obtain ⟨M2, e3, m4⟩ := ih (i + 1) f c M h hr (by omega)
      refine ⟨M2, ?_, m4⟩
      rw [show (s :: l).length + f + 1 = (l.length + f + 1) + 1 by simp; omega, f_NT_uses_17, p1, Option.bind_some, p2, p3.2.2.2.1, if_neg (nI_ge hlt (by omega)), a, Option.bind_some, if_pos rfl, nI_1, e3, List.map_cons, List.sum_cons, fu_no c1, Nat.zero_add]
theorem us5_loop (hD : Dst x k b t uu) (hk3 : k ≤ 3) {d : Int64} : ∀ (r q f c : Nat) (M : Mm), CS G M x k b t uu sg W KL n → q + r = n → ∃ M2, f_NT_uses_5 G (r + f + 1) x d (nI c) (nI q) M = some (nI (c + ((List.range' q r).map (fun q => ((brs (KL q)).map (fun r => fu KL d q r.2.2.2 r.2.1)).sum)).sum), M2) ∧ Mvd b M M2 := by
  intro r
  induction r with
  | zero =>
    intro q f c M h hq
    have hn := h.2.2.1
    refine ⟨M, ?_, Mvd.rf⟩
    rw [f_NT_uses_5, h.2.1, if_pos (nI_le (by omega) (by omega))]
    rfl
  | succ r ih =>
    intro q f c M h hq
    have hn := h.2.2.1
    obtain ⟨p1, p2, p3⟩ := h.tri hk3 (show q < n by omega)
    have hb := brs_len p3.1.2.2 p3.1.2.1.1
    obtain ⟨M1, e1, m1⟩ := us17_loop hD hk3 (d := d) (k5 := fun y0 y1 y3 y4 M => f_NT_uses_5 G (r + f + 1) y0 y1 y3 y4 M) (show q < n by omega) (brs (KL q)) 0 (4095 - (brs (KL q)).length) c M h rfl (by omega)
    rw [show (brs (KL q)).length + (4095 - (brs (KL q)).length) + 1 = FU by unfold FU; omega, nI_0] at e1
    obtain ⟨M2, e2, m2⟩ := ih (q + 1) f (c + ((brs (KL q)).map (fun r => fu KL d q r.2.2.2 r.2.1)).sum) M1 (h.mv m1.1 m1.2.1) (by omega)
    refine ⟨M2, ?_, m1.tr m2⟩
    rw [show r + 1 + f + 1 = (r + f + 1) + 1 by omega, f_NT_uses_5, h.2.1, if_neg (nI_ge (show q < n by omega) (by omega)), e1, e2, List.range'_succ, List.map_cons, List.sum_cons, Nat.add_assoc]
theorem uses_eq (hD : Dst x k b t uu) (hk3 : k ≤ 3) (h : CS G M x k b t uu sg W KL n) (d : Int64) : ∃ M2, f_NT_uses G x d M = some (nI (((List.range n).map (fun q => tt d (KL q))).sum + fsum (TT d) [] (vsn KL n)), M2) ∧ Mvd b M M2 := by
  have hn := h.2.2.1
  obtain ⟨M2, e, m⟩ := us5_loop hD hk3 (d := d) n 0 (4095 - n) 0 M h (by omega)
  refine ⟨M2, ?_, m⟩
  rw [show n + (4095 - n) + 1 = FU by unfold FU; omega, nI_0, Nat.zero_add, sum_vs n 0 (fun i hi => ?_), ← List.range_eq_range'] at e
  · exact e
  · obtain ⟨p1, p2, p3⟩ := h.tri hk3 (show i < n by omega)
    exact ⟨p3.1.2.2, brs_len p3.1.2.2 p3.1.2.1.1⟩
end CU
