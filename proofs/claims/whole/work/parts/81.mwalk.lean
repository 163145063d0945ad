/-! Walks over the words of a proof: the reference's, and that both answer alike. -/
def Mst (G : Nat → Nat) (M : Mm) (mo : Nat) (um : Nat → Nat) (ws : List Int64) : Prop := ModelR G M mo um ∧ PwS M mo um ws ∧ ws.length ≤ 199
def Vm (mo : Nat) (M M2 : Mm) : Prop := M2.2.2 = M.2.2 ∧ (∀ c, c ≠ mo → M2.1 c = M.1 c) ∧ (∀ j, j ≠ 12 → j ≠ 15 → j ≠ 16 → M2.1 mo j = M.1 mo j) ∧ ∀ c, c ≠ mo → M2.2.1 c = M.2.1 c
theorem Vm.rf {mo : Nat} {M : Mm} : Vm mo M M := ⟨rfl, fun _ _ => rfl, fun _ _ _ _ => rfl, fun _ _ => rfl⟩
theorem Vm.tr {mo : Nat} {M M1 M2 : Mm} (h : Vm mo M M1) (g : Vm mo M1 M2) : Vm mo M M2 := ⟨g.1.trans h.1, fun c hc => (g.2.1 c hc).trans (h.2.1 c hc), fun j a b d => (g.2.2.1 j a b d).trans (h.2.2.1 j a b d), fun c hc => (g.2.2.2 c hc).trans (h.2.2.2 c hc)⟩
theorem vm1 {mo j : Nat} {M2 : Mm} {x : Int32} (hj : j = 12 ∨ j = 15 ∨ j = 16) : Vm mo M2 (si M2 mo j x) := ⟨rfl, fun c hc => si_ne hc, fun i a b d => by
  show gi (si M2 mo j x) mo i = gi M2 mo i
  rw [gi_si, if_neg (fun q => by have := q.2; omega)], fun _ _ => rfl⟩
theorem Vm.si {mo j : Nat} {M M2 : Mm} {x : Int32} (h : Vm mo M M2) (hj : j = 12 ∨ j = 15 ∨ j = 16) : Vm mo M (si M2 mo j x) := h.tr (vm1 hj)
theorem Vm.sl {mo j : Nat} {M M2 : Mm} {x : Int64} (h : Vm mo M M2) : Vm mo M (sl M2 mo j x) := h.tr ⟨rfl, fun _ _ => rfl, fun _ _ _ _ => rfl, fun c hc => sl_ne hc⟩
theorem Vm.ap {mo : Nat} {um : Nat → Nat} {M M2 : Mm} (h : Vm mo M M2) : Ap mo um M M2 := ⟨h.1, h.2.1, fun j hj => h.2.2.1 j (by omega) (by omega) (by omega), fun c hc _ _ => h.2.2.2 c hc⟩
theorem ModelR.ne7 {G : Nat → Nat} {M : Mm} {mo : Nat} {um : Nat → Nat} (h : ModelR G M mo um) : um 7 ≠ mo := by
  obtain ⟨-, -, -, -, -, -, -, -, -, -, -, -, -, -, -, -, -, -, -, -, -, -, -, -, -, -, -, -, -, -, -, -, -, -, -, -, y7⟩ := h
  exact fun z => y7 z.symm
theorem few_eq (x : Int64) : (f_MO_few x = 1 ∧ ∃ c, cn x = some c) ∨ (f_MO_few x = 0 ∧ cn x = none) := by
  unfold f_MO_few
  by_cases d : lg_cmp x 0 < 0
  · rw [if_pos d]
    refine Or.inr ⟨rfl, ?_⟩
    cases h : cn x with
    | none => rfl
    | some c =>
      rw [lgc_lt, cn_int h, show (0 : Int64).toInt = 0 from by decide] at d
      omega
  · rw [if_neg d]
    by_cases g : 0 < lg_cmp x 2
    · rw [if_pos g]
      refine Or.inr ⟨rfl, ?_⟩
      cases h : cn x with
      | none => rfl
      | some c =>
        have := (cn_some h).1
        rw [lgc_gt, cn_int h, show (2 : Int64).toInt = 2 from by decide] at g
        omega
    · rw [if_neg g]
      rw [lgc_lt, show (0 : Int64).toInt = 0 from by decide] at d
      rw [lgc_gt, show (2 : Int64).toInt = 2 from by decide] at g
      exact Or.inl ⟨rfl, cn_of (by omega) (by omega)⟩
section MV
variable {G : Nat → Nat} {M M2 : Mm} {mo : Nat} {um : Nat → Nat} {ws : List Int64}
theorem Mst.vm (h : Mst G M mo um ws) (v : Vm mo M M2) : Mst G M2 mo um ws := by
  obtain ⟨h1, ⟨h2, h3⟩, h4⟩ := h
  refine ⟨h1.ref v.1, ⟨?_, fun i x hx => ?_⟩, h4⟩
  · show M2.1 mo 11 = _
    rw [v.2.2.1 11 (by decide) (by decide) (by decide)]; exact h2
  · show M2.2.1 (um 7) i = x
    rw [v.2.2.2 _ h1.ne7]; exact h3 i x hx
theorem be_loop (h : Mst G M mo um ws) : ∀ (k v pos f : Nat), v + k = 16 → pos < 1000 → (scan ws k pos = none ∧ f_MO_branchEnd_7 G (k + f + 1) mo (nI pos) (nI v) M = some (-1)) ∨ (∃ e, scan ws k pos = some e ∧ f_MO_branchEnd_7 G (k + f + 1) mo (nI pos) (nI v) M = some (nI (e + 1))) := by
  obtain ⟨hR, ⟨h2, h3⟩, h4⟩ := h
  obtain ⟨q0, q1, q2, q3, q4, q5, q6, q7, g0, g1, g2, g3, g4, g5, g6, g7, -⟩ := hR
  intro k
  induction k with
  | zero =>
    intro v pos f hv hp
    have hv : v = 16 := by omega
    subst hv
    have h16 : (16 : Int32) ≤ nI 16 := Int32.le_refl _
    rw [Nat.zero_add, f_MO_branchEnd_7, if_pos h16, h2, scan]
    by_cases c : pos < ws.length
    · rw [if_pos c, if_neg (nI_ge c (by omega)), nI_1]
      exact Or.inr ⟨pos, rfl, rfl⟩
    · rw [if_neg c, if_pos (nI_le (by omega) (by omega))]
      exact Or.inl ⟨rfl, rfl⟩
  | succ k ih =>
    intro v pos f hv hp
    have h16 : ¬ (16 : Int32) ≤ nI v := nI_ge (show v < 16 by omega) (by decide)
    rw [show k + 1 + f + 1 = (k + f + 1) + 1 by omega, f_MO_branchEnd_7, if_neg h16, h2, scan]
    by_cases c : pos < ws.length
    · have hx : ws[pos]? = some ws[pos] := List.getElem?_eq_getElem c
      have ip : ix (nI pos) 256 = some pos := ix_nI (by omega) (by decide)
      rw [if_neg (nI_ge c (by omega)), q7, g7, ip, Option.bind_some, h3 _ _ hx, hx, Option.bind_some]
      rcases few_eq ws[pos] with ⟨a, d, b⟩ | ⟨a, b⟩
      · have ex := (cn_some b).2
        have hd := (cn_some b).1
        have ea : nI pos + 1 + (ws[pos]).toInt32 = nI (pos + 1 + d) := by rw [ex, lN_i, nI_1, nI_add]
        rw [a, if_neg (by decide), Option.bind_some, b, Option.bind_some]
        simp only [st]
        rw [h3 _ _ hx, ea, nI_1]
        exact ih (v + 1) (pos + 1 + d) f (by omega) (by omega)
      · rw [a, if_pos rfl, b]
        exact Or.inl ⟨rfl, rfl⟩
    · rw [if_pos (nI_le (by omega) (by omega)), List.getElem?_eq_none (by omega)]
      exact Or.inl ⟨rfl, rfl⟩
theorem mdig_eq (h : Mst G M mo um ws) {sg : List Int64} {a : Nat} (hs : ∀ (i : Nat) (x : Int64), sg[i]? = some x → ws[a + i]? = some x) (hl : a + sg.length ≤ 256) : f_MO_digestOf G mo (nI a) (nI (a + sg.length)) M = some (dig sg) := by
  obtain ⟨hR, ⟨h2, h3⟩, h4⟩ := h
  obtain ⟨q0, q1, q2, q3, q4, q5, q6, q7, g0, g1, g2, g3, g4, g5, g6, g7, -⟩ := hR
  have go : ∀ (r : List Int64) (i f : Nat) (x : Int64), sg.drop i = r → i ≤ sg.length → f_MO_digestOf_8 G (r.length + f + 1) mo (nI (a + sg.length)) x (nI (a + i)) M = some (r.foldl f_MO_mixed x) := by
    intro r
    induction r with
    | nil =>
      intro i f x hd hi
      have la := congrArg List.length hd
      rw [List.length_drop] at la
      simp at la
      rw [f_MO_digestOf_8, if_pos (nI_le (by omega) (by omega))]
      rfl
    | cons y r ih =>
      intro i f x hd hi
      obtain ⟨hlt, he, hr⟩ := drop_at hd
      have e1 : sg[i]? = some y := by rw [List.getElem?_eq_getElem hlt, he]
      rw [show (y :: r).length + f + 1 = (r.length + f + 1) + 1 by simp; omega, f_MO_digestOf_8, if_neg (nI_ge (by omega) (by omega)), q7, g7, ix_nI (show a + i < 256 by omega) (by decide), Option.bind_some, h3 _ _ (hs i y e1)]
      simp only [st]
      rw [nI_1, show a + i + 1 = a + (i + 1) by omega]
      exact ih (i + 1) f _ hr (by omega)
  have := go sg 0 (4095 - sg.length) (nI sg.length).toInt64 rfl (by omega)
  rw [show sg.length + (4095 - sg.length) + 1 = FU by unfold FU; omega, Nat.add_zero] at this
  unfold f_MO_digestOf
  simp only [st]
  rw [nI_sub' (by omega), Nat.add_sub_cancel_left]
  exact this
def MW (M : Mm) (mo : Nat) (ws : List Int64) (nx : Nat) (p : List Nat) (rf ct : Nat) : Prop := gi M mo 12 = nI nx ∧ gi M mo 16 = nI (num p) ∧ gi M mo 15 = nI ct ∧ (1 ≤ ct → ∀ x, ws[rf]? = some x → gl M mo 13 = x) ∧ (2 ≤ ct → ∀ x, ws[rf + 1]? = some x → gl M mo 14 = x)
def MPost (c : Int32) (M : Mm) (mo : Nat) (ws : List Int64) : Stq → Prop
  | none => c = -1
  | some (nx, Sum.inl v) => c = 1 ∧ gi M mo 12 = nI nx ∧ gl M mo 13 = v
  | some (nx, Sum.inr (p, rf, ct)) => c = 0 ∧ MW M mo ws nx p rf ct
/-- the words of a reference are taken -/
theorem refer_eq (h : Mst G M mo um ws) {a ct : Nat} (hc : ct ≤ 2) (hl : a + ct ≤ ws.length) : ∃ M2, f_MO_refer G mo (nI a) (nI ct) M = some (1, M2) ∧ Vm mo M M2 ∧ gi M2 mo 12 = gi M mo 12 ∧ gi M2 mo 16 = gi M mo 16 ∧ gi M2 mo 15 = nI ct ∧ (1 ≤ ct → ∀ x, ws[a]? = some x → gl M2 mo 13 = x) ∧ (2 ≤ ct → ∀ x, ws[a + 1]? = some x → gl M2 mo 14 = x) := by
  have h4 := h.2.2
  have h3 := h.2.1.2
  have h2 := h.2.1.1
  have n7 := h.1.ne7
  have hR := h.1
  obtain ⟨q0, q1, q2, q3, q4, q5, q6, q7, g0, g1, g2, g3, g4, g5, g6, g7, -⟩ := hR
  have s11 : gi (si M mo 15 (nI ct)) mo 11 = nI ws.length := by rw [gi_si, if_neg (fun q => by have := q.2; omega)]; exact h2
  have g12 : ∀ (x y : Int64), gi (sl (sl (si M mo 15 (nI ct)) mo 13 x) mo 14 y) mo 12 = gi M mo 12 := fun x y => by rw [gi_sl, gi_sl, gi_si, if_neg (fun q => by have := q.2; omega)]
  have g16 : ∀ (x y : Int64), gi (sl (sl (si M mo 15 (nI ct)) mo 13 x) mo 14 y) mo 16 = gi M mo 16 := fun x y => by rw [gi_sl, gi_sl, gi_si, if_neg (fun q => by have := q.2; omega)]
  have g15 : ∀ (x y : Int64), gi (sl (sl (si M mo 15 (nI ct)) mo 13 x) mo 14 y) mo 15 = nI ct := fun x y => by rw [gi_sl, gi_sl, gi_si, if_pos ⟨rfl, rfl⟩]
  have l13 : ∀ (x y : Int64), gl (sl (sl (si M mo 15 (nI ct)) mo 13 x) mo 14 y) mo 13 = x := fun x y => by rw [gl_sl, if_neg (fun q => by have := q.2; omega), gl_sl, if_pos ⟨rfl, rfl⟩]
  have l14 : ∀ (x y : Int64), gl (sl (sl (si M mo 15 (nI ct)) mo 13 x) mo 14 y) mo 14 = y := fun x y => by rw [gl_sl, if_pos ⟨rfl, rfl⟩]
  have vv : ∀ (x y : Int64), Vm mo M (sl (sl (si M mo 15 (nI ct)) mo 13 x) mo 14 y) := fun x y => ((Vm.rf.si (by omega)).sl).sl
  unfold f_MO_refer
  simp only [st]
  rw [nI_add, s11, if_pos (nI_le hl (by omega))]
  rcases (show ct = 0 ∨ ct = 1 ∨ ct = 2 by omega) with rfl | rfl | rfl
  · rw [if_pos (by decide), if_pos (by decide)]
    exact ⟨_, rfl, vv _ _, g12 _ _, g16 _ _, g15 _ _, fun z => by omega, fun z => by omega⟩
  · have e1 : ws[a]? = some ws[a] := List.getElem?_eq_getElem (by omega)
    rw [if_neg (by decide), gr_si, q7, g7, ix_nI (show a < 256 by omega) (by decide), Option.bind_some, gl_si, h3 a _ e1, if_pos (by decide)]
    refine ⟨_, rfl, vv _ _, g12 _ _, g16 _ _, g15 _ _, fun _ x hx => ?_, fun z => by omega⟩
    rw [l13]
    rw [e1] at hx
    exact Option.some.inj hx
  · have e1 : ws[a]? = some ws[a] := List.getElem?_eq_getElem (by omega)
    have e2 : ws[a + 1]? = some ws[a + 1] := List.getElem?_eq_getElem (by omega)
    rw [if_neg (by decide), gr_si, q7, g7, ix_nI (show a < 256 by omega) (by decide), Option.bind_some, gl_si, h3 a _ e1, if_neg (by decide), gr_sl, gr_si, q7, g7, nI_1, ix_nI (show a + 1 < 256 by omega) (by decide), Option.bind_some, gl_sl, if_neg (fun q => n7 q.1), gl_si, h3 (a + 1) _ e2]
    refine ⟨_, rfl, vv _ _, g12 _ _, g16 _ _, g15 _ _, fun _ x hx => ?_, fun _ x hx => ?_⟩
    · rw [l13]
      rw [e1] at hx
      exact Option.some.inj hx
    · rw [l14]
      rw [e2] at hx
      exact Option.some.inj hx
theorem tb_loop (h : Mst G M mo um ws) {c : Nat} (hc : c < 16) : ∀ (k i pos q f : Nat), i + k = c → hop ws k pos = some q → f_MO_throughBranch_82 G (k + f + 1) mo (nI pos) (nI c) (nI i) M = f_MO_throughBranch_82 G (f + 1) mo (nI q) (nI c) (nI c) M := by
  obtain ⟨hR, ⟨h2, h3⟩, h4⟩ := h
  obtain ⟨q0, q1, q2, q3, q4, q5, q6, q7, g0, g1, g2, g3, g4, g5, g6, g7, -⟩ := hR
  intro k
  induction k with
  | zero =>
    intro i pos q f hi hh
    rw [hop] at hh
    obtain rfl := Option.some.inj hh
    rw [Nat.zero_add, show i = c by omega]
  | succ k ih =>
    intro i pos q f hi hh
    rw [hop] at hh
    obtain ⟨x, e1, hh⟩ := Option.bind_eq_some_iff.mp hh
    obtain ⟨d, e2, hh⟩ := Option.bind_eq_some_iff.mp hh
    have hp := (List.getElem?_eq_some_iff.mp e1).1
    have ea : nI pos + 1 + x.toInt32 = nI (pos + 1 + d) := by rw [(cn_some e2).2, lN_i, nI_1, nI_add]
    rw [show k + 1 + f + 1 = (k + f + 1) + 1 by omega, f_MO_throughBranch_82, if_neg (nI_ge (show i < c by omega) (by omega)), q7, g7, ix_nI (show pos < 256 by omega) (by decide), Option.bind_some, h3 _ _ e1]
    simp only [st]
    rw [ea, nI_1]
    exact ih (i + 1) _ q f (by omega) hh
theorem tb_end (h : Mst G M mo um ws) {c q ct f nx : Nat} {p' : List Nat} {x : Int64} (hp : nb (c :: p')) (hx : ws[q]? = some x) (hc : cn x = some ct) (hl : q + 1 + ct ≤ ws.length) (h12 : gi M mo 12 = nI nx) (h16 : gi M mo 16 = nI (num (c :: p'))) : ∃ M2, f_MO_throughBranch_82 G (f + 1) mo (nI q) (nI c) (nI c) M = some (0, M2) ∧ Vm mo M M2 ∧ MW M2 mo ws nx p' (q + 1) ct := by
  have h4 := h.2.2
  have hq := (List.getElem?_eq_some_iff.mp hx).1
  have hR := h.1
  obtain ⟨q0, q1, q2, q3, q4, q5, q6, q7, g0, g1, g2, g3, g4, g5, g6, g7, -⟩ := hR
  have hb : f_MO_behind (nI (num (c :: p'))) (16 + nI c) = nI (num p') := by
    have hc16 := hp.2 c List.mem_cons_self
    have : (16 : Int32) + nI c = nI (num [c]) := by
      rw [show (16 : Int32) = nI 16 from rfl, nI_add]
      rfl
    rw [this, MO_behind_eq hp ⟨by simp, fun d hd => by rw [List.mem_singleton.mp hd]; exact hc16⟩ ⟨p', rfl⟩]
    rfl
  have v1 : Vm mo M (si M mo 16 (nI (num p'))) := Vm.rf.si (by omega)
  obtain ⟨M2, e2, v2, k12, k16, k15, k13, k14⟩ := refer_eq (h.vm v1) (cn_some hc).1 hl
  refine ⟨M2, ?_, v1.tr v2, ?_, ?_, k15, k13, k14⟩
  · rw [f_MO_throughBranch_82, if_pos (Int32.le_refl _), h16, hb]
    simp only [st]
    rw [gr_si, q7, g7, ix_nI (show q < 256 by omega) (by decide), Option.bind_some, gl_si, h.2.1.2 _ _ hx, (cn_some hc).2, lN_i, nI_1, e2, Option.bind_some]
    dsimp only
    rw [if_neg (by decide)]
  · rw [k12, gi_si, if_neg (fun q => by have := q.2; omega)]; exact h12
  · rw [k16, gi_si, if_pos ⟨rfl, rfl⟩]
theorem br_model (h : Mst G M mo um ws) {nx rf : Nat} {p : List Nat} {s : Stq} {wt : Int64} (hw : Wok ws nx p rf 1) (hr : ws[rf]? = some wt) (hc : MW M mo ws nx p rf 1) (hs : BrS ws nx p wt s) : ∃ c M2, f_MO_throughBranch G mo M = some (c, M2) ∧ MPost c M2 mo ws s ∧ Vm mo M M2 := by
  have h4 := h.2.2
  obtain ⟨hp, -, -, hnx⟩ := hw
  have hpl := hp.1
  have hsm := num_sm hp
  have hR := h.1
  obtain ⟨q0, q1, q2, q3, q4, q5, q6, q7, g0, g1, g2, g3, g4, g5, g6, g7, -⟩ := hR
  unfold f_MO_throughBranch f_MO_branchEnd
  have be := be_loop h 16 0 nx 4079 rfl (by omega)
  rw [nI_0] at be
  rw [hc.1]
  rcases be with ⟨b1, b2⟩ | ⟨e, b1, b2⟩
  · have b2 : f_MO_branchEnd_7 G FU mo (nI nx) 0 M = some (-1) := b2
    rw [b2, Option.bind_some, if_pos (by decide)]
    rcases hs with ⟨_, rfl⟩ | ⟨e, z, _⟩
    · exact ⟨-1, M, rfl, rfl, Vm.rf⟩
    · rw [b1] at z; cases z
  · have b2 : f_MO_branchEnd_7 G FU mo (nI nx) 0 M = some (nI (e + 1)) := b2
    obtain ⟨s1, s2⟩ := scan_ge _ _ _ b1
    have hl := sgm_len (a := nx) s2
    have dg1 := mdig_eq h (sg := sgm ws nx e) (a := nx) (fun i x hx => by
      have hi := (List.getElem?_eq_some_iff.mp hx).1
      rw [hl] at hi
      rw [sgm_at hi] at hx
      exact hx) (by rw [hl]; omega)
    rw [hl, show nx + (e + 1 - nx) = e + 1 by omega] at dg1
    rw [b2, Option.bind_some, if_neg (nI_pos (by omega)), dg1, Option.bind_some, hc.2.2.2.1 (by omega) wt hr]
    rcases hs with ⟨z, _⟩ | ⟨e', z, hs⟩
    · rw [b1] at z; cases z
    · rw [b1] at z
      obtain rfl := Option.some.inj z
      rcases hs with ⟨d, rfl⟩ | ⟨d, hs⟩
      · rw [if_neg (fun z => d (lg_eq.mp z))]
        exact ⟨-1, M, rfl, rfl, Vm.rf⟩
      · rw [if_pos (lg_eq.mpr d), hc.2.1, MO_nibs hp]
        simp only [st]
        rcases hs with ⟨rfl, x, hx, rfl⟩ | ⟨c, p', q, x, ct, rfl, k1, k2, k3, rfl⟩
        · rw [if_pos (by decide), nI_pred, gr_si, q7, g7, ix_nI (show e < 256 by omega) (by decide), Option.bind_some, gl_si, h.2.1.2 _ _ hx]
          refine ⟨1, _, rfl, ⟨rfl, ?_, ?_⟩, (Vm.rf.si (by omega)).sl⟩
          · rw [gi_sl, gi_si, if_pos ⟨rfl, rfl⟩]
          · rw [gl_sl, if_pos ⟨rfl, rfl⟩]
        · have hc16 := hp.2 c List.mem_cons_self
          rw [if_neg (nI_ne0 (by rw [List.length_cons]; omega) (by omega)), gi_si, if_neg (fun q => by have := q.2; omega), hc.2.1, show (c :: p').length = p'.length + 1 from rfl, nI_pred, sh_r (by omega) (by rw [List.length_cons] at hpl; omega)]
          have hf : num (c :: p') / 16 ^ p'.length = num [c] := by
            have := num_front (p := c :: p') hp.2 (k := 1) (by rw [List.length_cons]; omega)
            rw [show (c :: p').length - 1 = p'.length from rfl] at this
            exact this
          have hn1 : num [c] = 16 + c := rfl
          rw [hf, hn1, and15 (by omega), show (16 + c) % 16 = c by omega]
          have v1 : Vm mo M (si M mo 12 (nI (e + 1))) := Vm.rf.si (by omega)
          have h1 := h.vm v1
          have lp := tb_loop h1 hc16 c 0 nx q (4095 - c) (by omega) k1
          rw [show c + (4095 - c) + 1 = FU by unfold FU; omega, nI_0] at lp
          obtain ⟨q', w1, w2⟩ := scan_split c (15 - c + 1) nx e (by rw [show c + (15 - c + 1) = 16 by omega]; exact b1)
          rw [k1] at w1
          obtain rfl := Option.some.inj w1
          obtain ⟨x', ct', w3, w4, w5⟩ := scan_inv w2
          rw [k2] at w3
          obtain rfl := Option.some.inj w3
          rw [k3] at w4
          obtain rfl := Option.some.inj w4
          have w6 := scan_ge _ _ _ w5
          obtain ⟨M2, t1, t2, t3⟩ := tb_end (f := 4095 - c) (nx := e + 1) h1 hp k2 k3 (by omega) (by rw [gi_si, if_pos ⟨rfl, rfl⟩]) (by rw [gi_si, if_neg (fun q => by have := q.2; omega)]; exact hc.2.1)
          exact ⟨0, M2, lp.trans t1, ⟨rfl, t3⟩, v1.tr t2⟩
theorem pr_model (h : Mst G M mo um ws) {h0 t0 : Int64} {nx rf : Nat} {p : List Nat} {s : Stq} (hw : Wok ws nx p rf 2) (e1 : ws[rf]? = some h0) (e2 : ws[rf + 1]? = some t0) (hc : MW M mo ws nx p rf 2) (hs : PrS h0 t0 nx p rf s) : MPost (f_MO_throughTwo G mo M).1 (f_MO_throughTwo G mo M).2 mo ws s ∧ Vm mo M (f_MO_throughTwo G mo M).2 := by
  obtain ⟨hp, -, -, hnx⟩ := hw
  have hz := sh1 h0
  have w13 := hc.2.2.2.1 (by omega) h0 e1
  have w14 := hc.2.2.2.2 (by omega) t0 e2
  have z3 : (3 : Int64).toInt = 3 := by decide
  have zM : (262143 : Int64).toInt = 262143 := by decide
  have bad : f_MO_nibbles (-1) < 0 := by decide
  unfold f_MO_throughTwo
  rw [w13]
  by_cases c3 : lg_cmp h0 3 < 0
  · rw [if_pos c3, if_pos (by decide)]
    rw [lgc_lt, z3] at c3
    refine ⟨?_, Vm.rf⟩
    rcases hs with ⟨c, rfl⟩ | ⟨q, hq, he, hs⟩
    · rfl
    · have hsm := num_sm hq
      have h2 : h0.toInt = 2 := by omega
      have h2 : h0 = 2 := Int64.toInt_inj.mp (by rw [h2]; decide)
      subst h2
      rcases hs with ⟨d, rfl⟩ | ⟨d, ⟨g, rfl⟩ | ⟨g, _⟩⟩
      · exact absurd d (by decide)
      · rfl
      · have : num q = 1 := by
          have : (2 : Int64).toInt / 2 = 1 := by decide
          omega
        exact absurd (num_inj' hq.2 (q := []) (fun d hd => (by cases hd)) this) g
  · rw [if_neg c3]
    rw [lgc_lt, z3] at c3
    by_cases cM : lg_cmp h0 262143 ≤ 0
    · rw [if_pos cM]
      rw [lgc_le, zM] at cM
      simp only [st]
      have hr : 0 ≤ h0.toInt / 2 ∧ h0.toInt / 2 < 131072 := by omega
      obtain ⟨n, hn⟩ := Int.eq_ofNat_of_zero_le hr.1
      have ex : h0 >>> ((1 : Int32).toInt64 &&& 63) = lN n := Int64.toInt_inj.mp (by rw [hz, hn, lN_toInt (by omega)])
      rw [ex, lN_i, if_neg (nI_pos (by omega))]
      rcases hs with ⟨c, rfl⟩ | ⟨q, hq, he, hs⟩
      · have hnn : ¬ 0 ≤ f_MO_nibbles (nI n) := fun z => c (by
          have := (nibs_eq (nI n)).2.mp z
          rw [nI_toInt (by omega)] at this
          rw [hn]
          exact this)
        rw [if_neg hnn]
        exact ⟨rfl, Vm.rf⟩
      · have hnq : n = num q := by omega
        subst hnq
        have hq4 := hq.1
        rw [if_pos (by rw [MO_nibs hq]; exact nI_pos' (by omega)), hc.2.1]
        rcases hs with ⟨d, rfl⟩ | ⟨d, hs⟩
        · rw [if_pos (lg_eq.mpr d)]
          by_cases g : p = q
          · rw [if_pos ((num_eqI hq hp).mpr g.symm), if_pos g, w14]
            exact ⟨⟨rfl, by rw [gi_sl]; exact hc.1, by rw [gl_sl, if_pos ⟨rfl, rfl⟩]⟩, Vm.rf.sl⟩
          · rw [if_neg (fun z => g ((num_eqI hq hp).mp z).symm), if_neg g]
            exact ⟨⟨rfl, by rw [gi_sl]; exact hc.1, by rw [gl_sl, if_pos ⟨rfl, rfl⟩]⟩, Vm.rf.sl⟩
        · rw [if_neg (fun z => d (lg_eq.mp z)), MO_begins_eq hp hq]
          rcases hs with ⟨g, rfl⟩ | ⟨g, hs⟩
          · subst g
            have : num [] = 1 := rfl
            have h3 : h0.toInt = 3 := by omega
            have h3 : h0 = 3 := Int64.toInt_inj.mp (by rw [h3]; decide)
            subst h3
            exact absurd (show (3 : Int64) &&& 1 = 1 by decide) d
          · rcases hs with ⟨f, rfl⟩ | ⟨f, rfl⟩
            · rw [if_neg f, if_pos rfl]
              exact ⟨⟨rfl, by rw [gi_sl]; exact hc.1, by rw [gl_sl, if_pos ⟨rfl, rfl⟩]⟩, Vm.rf.sl⟩
            · rw [if_pos f, if_neg (by decide), MO_behind_eq hp hq f, gl_si, w14]
              refine ⟨⟨rfl, ?_, ?_, ?_, fun _ x hx => ?_, fun z => by omega⟩, ((Vm.rf.si (by omega)).sl).si (by omega)⟩
              · rw [gi_si, if_neg (fun q => by have := q.2; omega), gi_sl, gi_si, if_neg (fun q => by have := q.2; omega)]; exact hc.1
              · rw [gi_si, if_neg (fun q => by have := q.2; omega), gi_sl, gi_si, if_pos ⟨rfl, rfl⟩]
              · rw [gi_si, if_pos ⟨rfl, rfl⟩]; rfl
              · rw [gl_si, gl_sl, if_pos ⟨rfl, rfl⟩]
                rw [e2] at hx
                exact Option.some.inj hx
    · rw [if_neg cM, if_pos (by decide)]
      rw [lgc_le, zM] at cM
      refine ⟨?_, Vm.rf⟩
      rcases hs with ⟨c, rfl⟩ | ⟨q, hq, he, hs⟩
      · rfl
      · have hsm := num_sm hq
        omega
end MV
/-! Both walks. -/
section BW
variable {G : Nat → Nat} {B w mo : Nat} {um : Nat → Nat} {ws : List Int64} {v : Int32}
theorem c_ref {M : Mm} {s f : Nat} {V : Int64} (h : gi M B 2 = 2) : f_PF_shows_18 G (f + 1) B V (nI s) M = some (0, M) := by
  rw [f_PF_shows_18, h, if_neg (show ¬ (2 : Int32) = 1 by decide), if_neg (show ¬ (2 : Int32) = 0 by decide), ite_self]
theorem c_fin {M : Mm} {s f nx : Nat} {V x : Int64} (h : Pst G M B w ws) (h1 : gi M B 2 = 1) (h2 : gi M B 3 = nI nx) (h3 : gl M B 7 = x) (hn : nx < 2 ^ 31) : f_PF_shows_18 G (f + 1) B V (nI s) M = some (if nx = ws.length ∧ x = V then 1 else 0, M) := by
  have h4 := h.2.2.1
  rw [f_PF_shows_18, h1, if_pos rfl, if_neg (show ¬ (1 : Int32) = 0 by decide), ite_self, h2, h.2.2.2.1, h3]
  by_cases c : nx = ws.length
  · rw [if_pos (by rw [c])]
    by_cases d : x = V
    · rw [if_pos (lg_eq.mpr d), if_pos ⟨c, d⟩]
    · rw [if_neg (fun z => d (lg_eq.mp z)), if_neg (fun z => d z.2)]
  · rw [if_neg (fun z => c ((nI_eq hn (by omega)).mp z)), if_neg (fun z => c z.1)]
theorem m_ref {M : Mm} {s f : Nat} : f_MO_verify_82 G (f + 1) mo v (-1) (nI s) M = some (0, M) := by
  rw [f_MO_verify_82, if_neg (show ¬ (-1 : Int32) = 1 by decide), if_neg (show ¬ (-1 : Int32) = 0 by decide), ite_self]
theorem m_fin {M : Mm} {s f nx : Nat} {x : Int64} (h : Mst G M mo um ws) (h2 : gi M mo 12 = nI nx) (h3 : gl M mo 13 = x) (hn : nx < 2 ^ 31) : f_MO_verify_82 G (f + 1) mo v 1 (nI s) M = some (if nx = ws.length ∧ x = v.toInt64 then 1 else 0, M) := by
  have h4 := h.2.2
  rw [f_MO_verify_82, if_pos rfl, if_neg (show ¬ (1 : Int32) = 0 by decide), ite_self, h2, h.2.1.1, h3]
  by_cases c : nx = ws.length
  · rw [if_pos (by rw [c])]
    by_cases d : x = v.toInt64
    · rw [if_pos (lg_eq.mpr d), if_pos ⟨c, d⟩]
    · rw [if_neg (fun z => d (lg_eq.mp z)), if_neg (fun z => d z.2)]
  · rw [if_neg (fun z => c ((nI_eq hn (by omega)).mp z)), if_neg (fun z => c z.1)]
/-- one step of both -/
theorem step_both {nx rf ct : Nat} {p : List Nat} (hw : Wok ws nx p rf ct) : ∃ s, (∀ nx' p' rf' ct', s = some (nx', Sum.inr (p', rf', ct')) → Wok ws nx' p' rf' ct' ∧ p'.length < p.length) ∧ (∀ nx' x, s = some (nx', Sum.inl x) → nx' ≤ ws.length) ∧ (∀ (M : Mm) (i f : Nat) (V : Int64), Pst G M B w ws → CW M B nx p rf ct → i < 5 → ∃ M2, f_PF_shows_18 G (f + 1) B V (nI i) M = f_PF_shows_18 G f B V (nI (i + 1)) M2 ∧ CPost M2 B s ∧ Vf B M M2) ∧ (∀ (M : Mm) (i f : Nat), Mst G M mo um ws → MW M mo ws nx p rf ct → i < 64 → ∃ c M2, f_MO_verify_82 G (f + 1) mo v 0 (nI i) M = f_MO_verify_82 G f mo v c (nI (i + 1)) M2 ∧ MPost c M2 mo ws s ∧ Vm mo M M2) := by
  have un5 : ∀ {i : Nat}, i < 5 → ¬ (5 : Int32) ≤ nI i := fun h => nI_ge h (by decide)
  have un64 : ∀ {i : Nat}, i < 64 → ¬ (64 : Int32) ≤ nI i := fun h => nI_ge h (by decide)
  obtain ⟨hp, hct, hrf, hnx⟩ := hw
  rcases (show ct = 0 ∨ ct = 1 ∨ ct = 2 by omega) with rfl | rfl | rfl
  · refine ⟨some (nx, Sum.inl 0), fun _ _ _ _ h => (by cases h), fun _ _ h => (by cases h; exact hnx), fun M i f V h hc hi => ?_, fun M i f h hc hi => ?_⟩
    · obtain ⟨a, b⟩ := end_post (G := G) (v := 0) hc.2.1
      refine ⟨_, ?_, a, b⟩
      rw [f_PF_shows_18, if_neg (un5 hi), if_pos hc.1, hc.2.2.2.2, if_pos (show nI 0 = (0 : Int32) from nI_0), nI_1]
      rfl
    · refine ⟨1, sl M mo 13 0, ?_, ⟨rfl, by rw [gi_sl]; exact hc.1, by rw [gl_sl, if_pos ⟨rfl, rfl⟩]⟩, Vm.rf.sl⟩
      rw [f_MO_verify_82, if_neg (un64 hi), if_pos rfl, hc.2.2.1, if_pos (show nI 0 = (0 : Int32) from nI_0), nI_1]
      rfl
  · have e1 : ws[rf]? = some ws[rf] := List.getElem?_eq_getElem (by omega)
    obtain ⟨s, hs, hg⟩ := br_ex (ws := ws) (nx := nx) (wt := ws[rf]) hp
    refine ⟨s, hg, fun nx' x z => ?_, fun M i f V h hc hi => ?_, fun M i f h hc hi => ?_⟩
    · subst z
      rcases hs with ⟨_, z⟩ | ⟨e, k1, ⟨_, z⟩ | ⟨_, ⟨_, y, _, z⟩ | ⟨_, _, _, _, _, _, _, _, _, z⟩⟩⟩
      · cases z
      · cases z
      · obtain ⟨rfl, rfl⟩ := finj z
        have := scan_ge _ _ _ k1
        omega
      · cases z
    · have h4 := h.2.2.1
      obtain ⟨M2, t1, t2, t3⟩ := br_class h ⟨hp, hct, hrf, hnx⟩ hc hs
      refine ⟨M2, ?_, t2, t3⟩
      rw [f_PF_shows_18, if_neg (un5 hi), if_pos hc.1, hc.2.2.2.2, if_neg (show ¬ nI 1 = (0 : Int32) by decide), if_pos (show nI 1 = (1 : Int32) from rfl), hc.2.2.2.1, h.1, h.2.1, ix_nI (show rf < 199 by omega) (by decide), Option.bind_some, h.2.2.2.2.1 rf _ e1, t1, Option.bind_some, nI_1]
    · obtain ⟨c, M2, t1, t2, t3⟩ := br_model h ⟨hp, hct, hrf, hnx⟩ e1 hc hs
      refine ⟨c, M2, ?_, t2, t3⟩
      rw [f_MO_verify_82, if_neg (un64 hi), if_pos rfl, hc.2.2.1, if_neg (show ¬ nI 1 = (0 : Int32) by decide), if_neg (show ¬ nI 1 = (2 : Int32) by decide), t1, Option.bind_some, nI_1]
  · have e1 : ws[rf]? = some ws[rf] := List.getElem?_eq_getElem (by omega)
    have e2 : ws[rf + 1]? = some ws[rf + 1] := List.getElem?_eq_getElem (by omega)
    obtain ⟨s, hs, hg⟩ := pr_ex (h := ws[rf]) (t := ws[rf + 1]) (show Wok ws nx p rf 2 from ⟨hp, hct, hrf, hnx⟩)
    refine ⟨s, hg, fun nx' x z => ?_, fun M i f V h hc hi => ?_, fun M i f h hc hi => ?_⟩
    · subst z
      rcases hs with ⟨_, z⟩ | ⟨q, _, _, ⟨_, z⟩ | ⟨_, ⟨_, z⟩ | ⟨_, ⟨_, z⟩ | ⟨_, z⟩⟩⟩⟩
      · cases z
      · obtain ⟨rfl, rfl⟩ := finj z; exact hnx
      · cases z
      · obtain ⟨rfl, rfl⟩ := finj z; exact hnx
      · cases z
    · have h4 := h.2.2.1
      obtain ⟨t2, t3⟩ := pr_class (G := G) (ws := ws) ⟨hp, hct, hrf, hnx⟩ hc hs
      refine ⟨_, ?_, t2, t3⟩
      rw [f_PF_shows_18, if_neg (un5 hi), if_pos hc.1, hc.2.2.2.2, if_neg (show ¬ nI 2 = (0 : Int32) by decide), if_neg (show ¬ nI 2 = (1 : Int32) by decide), hc.2.2.2.1, h.1, h.2.1, ix_nI (show rf < 199 by omega) (by decide), Option.bind_some, nI_1, ix_nI (show rf + 1 < 199 by omega) (by decide), Option.bind_some, h.2.2.2.2.1 rf _ e1, h.2.2.2.2.1 (rf + 1) _ e2, nI_1]
      rfl
    · obtain ⟨t2, t3⟩ := pr_model h ⟨hp, hct, hrf, hnx⟩ e1 e2 hc hs
      refine ⟨_, _, ?_, t2, t3⟩
      rw [f_MO_verify_82, if_neg (un64 hi), if_pos rfl, hc.2.2.1, if_neg (show ¬ nI 2 = (0 : Int32) by decide), if_pos (show nI 2 = (2 : Int32) from rfl), nI_1]
      rfl
theorem run_both : ∀ (l nx : Nat) (p : List Nat) (rf ct : Nat), p.length ≤ l → Wok ws nx p rf ct → ∃ r : Int32, (r = 0 ∨ r = 1) ∧ (∀ (M : Mm) (i f : Nat), Pst G M B w ws → CW M B nx p rf ct → i + p.length ≤ 4 → ∃ M2, f_PF_shows_18 G (p.length + 2 + f) B v.toInt64 (nI i) M = some (r, M2) ∧ Vf B M M2) ∧ (∀ (M : Mm) (i f : Nat), Mst G M mo um ws → MW M mo ws nx p rf ct → i + p.length ≤ 60 → ∃ M2, f_MO_verify_82 G (p.length + 2 + f) mo v 0 (nI i) M = some (r, M2) ∧ Vm mo M M2) := by
  intro l
  induction l with
  | zero =>
    intro nx p rf ct hl hw
    obtain ⟨s, hg, hfn, hC, hM⟩ := step_both (G := G) (B := B) (w := w) (mo := mo) (um := um) (v := v) hw
    rcases s with _ | ⟨nx', x | ⟨p', rf', ct'⟩⟩
    · refine ⟨0, Or.inl rfl, fun M i f h hc hi => ?_, fun M i f h hc hi => ?_⟩
      · obtain ⟨M2, t1, t2, t3⟩ := hC M i (p.length + 1 + f) v.toInt64 h hc (by omega)
        refine ⟨M2, ?_, t3⟩
        rw [show p.length + 2 + f = (p.length + 1 + f) + 1 by omega, t1, show p.length + 1 + f = (p.length + f) + 1 by omega]
        exact c_ref t2
      · obtain ⟨c, M2, t1, t2, t3⟩ := hM M i (p.length + 1 + f) h hc (by omega)
        refine ⟨M2, ?_, t3⟩
        have t2 : c = -1 := t2
        rw [show p.length + 2 + f = (p.length + 1 + f) + 1 by omega, t1, t2, show p.length + 1 + f = (p.length + f) + 1 by omega]
        exact m_ref
    · refine ⟨if nx' = ws.length ∧ x = v.toInt64 then 1 else 0, ?_, fun M i f h hc hi => ?_, fun M i f h hc hi => ?_⟩
      · by_cases c : nx' = ws.length ∧ x = v.toInt64
        · rw [if_pos c]; exact Or.inr rfl
        · rw [if_neg c]; exact Or.inl rfl
      · obtain ⟨M2, t1, t2, t3⟩ := hC M i (p.length + 1 + f) v.toInt64 h hc (by omega)
        have := hfn nx' x rfl
        have h4 := h.2.2.1
        refine ⟨M2, ?_, t3⟩
        rw [show p.length + 2 + f = (p.length + 1 + f) + 1 by omega, t1, show p.length + 1 + f = (p.length + f) + 1 by omega]
        exact c_fin (h.vf t3) t2.1 t2.2.1 t2.2.2 (by omega)
      · obtain ⟨c, M2, t1, t2, t3⟩ := hM M i (p.length + 1 + f) h hc (by omega)
        have := hfn nx' x rfl
        have h4 := h.2.2
        refine ⟨M2, ?_, t3⟩
        rw [show p.length + 2 + f = (p.length + 1 + f) + 1 by omega, t1, t2.1, show p.length + 1 + f = (p.length + f) + 1 by omega]
        exact m_fin (h.vm t3) t2.2.1 t2.2.2 (by omega)
    · have := (hg nx' p' rf' ct' rfl).2
      omega
  | succ l ih =>
    intro nx p rf ct hl hw
    obtain ⟨s, hg, hfn, hC, hM⟩ := step_both (G := G) (B := B) (w := w) (mo := mo) (um := um) (v := v) hw
    rcases s with _ | ⟨nx', x | ⟨p', rf', ct'⟩⟩
    · refine ⟨0, Or.inl rfl, fun M i f h hc hi => ?_, fun M i f h hc hi => ?_⟩
      · obtain ⟨M2, t1, t2, t3⟩ := hC M i (p.length + 1 + f) v.toInt64 h hc (by omega)
        refine ⟨M2, ?_, t3⟩
        rw [show p.length + 2 + f = (p.length + 1 + f) + 1 by omega, t1, show p.length + 1 + f = (p.length + f) + 1 by omega]
        exact c_ref t2
      · obtain ⟨c, M2, t1, t2, t3⟩ := hM M i (p.length + 1 + f) h hc (by omega)
        refine ⟨M2, ?_, t3⟩
        have t2 : c = -1 := t2
        rw [show p.length + 2 + f = (p.length + 1 + f) + 1 by omega, t1, t2, show p.length + 1 + f = (p.length + f) + 1 by omega]
        exact m_ref
    · refine ⟨if nx' = ws.length ∧ x = v.toInt64 then 1 else 0, ?_, fun M i f h hc hi => ?_, fun M i f h hc hi => ?_⟩
      · by_cases c : nx' = ws.length ∧ x = v.toInt64
        · rw [if_pos c]; exact Or.inr rfl
        · rw [if_neg c]; exact Or.inl rfl
      · obtain ⟨M2, t1, t2, t3⟩ := hC M i (p.length + 1 + f) v.toInt64 h hc (by omega)
        have := hfn nx' x rfl
        have h4 := h.2.2.1
        refine ⟨M2, ?_, t3⟩
        rw [show p.length + 2 + f = (p.length + 1 + f) + 1 by omega, t1, show p.length + 1 + f = (p.length + f) + 1 by omega]
        exact c_fin (h.vf t3) t2.1 t2.2.1 t2.2.2 (by omega)
      · obtain ⟨c, M2, t1, t2, t3⟩ := hM M i (p.length + 1 + f) h hc (by omega)
        have := hfn nx' x rfl
        have h4 := h.2.2
        refine ⟨M2, ?_, t3⟩
        rw [show p.length + 2 + f = (p.length + 1 + f) + 1 by omega, t1, t2.1, show p.length + 1 + f = (p.length + f) + 1 by omega]
        exact m_fin (h.vm t3) t2.2.1 t2.2.2 (by omega)
    · obtain ⟨w2, lt⟩ := hg nx' p' rf' ct' rfl
      obtain ⟨r, hr, rC, rM⟩ := ih nx' p' rf' ct' (by omega) w2
      refine ⟨r, hr, fun M i f h hc hi => ?_, fun M i f h hc hi => ?_⟩
      · obtain ⟨M2, t1, t2, t3⟩ := hC M i (p.length + 1 + f) v.toInt64 h hc (by omega)
        obtain ⟨M3, u1, u2⟩ := rC M2 (i + 1) (p.length - p'.length - 1 + f) (h.vf t3) t2 (by omega)
        refine ⟨M3, ?_, t3.tr u2⟩
        rw [show p.length + 2 + f = (p.length + 1 + f) + 1 by omega, t1, show p.length + 1 + f = p'.length + 2 + (p.length - p'.length - 1 + f) by omega]
        exact u1
      · obtain ⟨c, M2, t1, t2, t3⟩ := hM M i (p.length + 1 + f) h hc (by omega)
        obtain ⟨M3, u1, u2⟩ := rM M2 (i + 1) (p.length - p'.length - 1 + f) (h.vm t3) t2.2 (by omega)
        refine ⟨M3, ?_, t3.tr u2⟩
        rw [show p.length + 2 + f = (p.length + 1 + f) + 1 by omega, t1, t2.1, show p.length + 1 + f = p'.length + 2 + (p.length - p'.length - 1 + f) by omega]
        exact u1
/-- the whole walks -/
theorem verify_both {p : List Nat} (hp : nb p) (root : Int64) (hl : ws.length ≤ 199) : ∃ r : Int32, (r = 0 ∨ r = 1) ∧ (∀ M : Mm, Pst G M B w ws → ∃ M2, f_PF_shows G B root (nI (num p)) v.toInt64 M = some (r, M2) ∧ Vf B M M2) ∧ (∀ M : Mm, Mst G M mo um ws → ∃ M2, f_MO_verify G mo root (nI (num p)) v M = some (r, M2) ∧ Vm mo M M2) := by
  have hpl := hp.1
  have hnn : ¬ f_MO_nibbles (nI (num p)) < 0 := by rw [MO_nibs hp]; exact nI_pos (by omega)
  have nil : (∃ c x, ws[0]? = some x ∧ cn x = some c ∧ 0 + c < ws.length) ∨ ¬ (∃ x c, ws[0]? = some x ∧ cn x = some c ∧ 0 + c < ws.length) := by
    by_cases c : ∃ x c, ws[0]? = some x ∧ cn x = some c ∧ 0 + c < ws.length
    · obtain ⟨x, c, z⟩ := c; exact Or.inl ⟨c, x, z⟩
    · exact Or.inr c
  have vC : ∀ M : Mm, Vf B M (si (si M B 2 0) B 4 (nI (num p))) := fun M => (Vf.rf.si (by decide)).si (by decide)
  rcases nil with ⟨ct, x, e1, e2, e3⟩ | hno
  · have hc2 := (cn_some e2).1
    have ex := (cn_some e2).2
    rw [Nat.zero_add] at e3
    have hseg : ∀ (i : Nat) (y : Int64), (sgm ws 1 ct)[i]? = some y → ws[1 + i]? = some y := fun i y hy => by
      have hi := (List.getElem?_eq_some_iff.mp hy).1
      rw [sgm_len e3] at hi
      rw [sgm_at hi] at hy
      exact hy
    have hsl := sgm_len (a := 1) e3
    rw [show ct + 1 - 1 = ct by omega] at hsl
    have wok : Wok ws (1 + ct) p 1 ct := ⟨hp, hc2, by omega, by omega⟩
    obtain ⟨r, hr, rC, rM⟩ := run_both (G := G) (B := B) (w := w) (mo := mo) (um := um) (v := v) 4 (1 + ct) p 1 ct hpl wok
    by_cases hd : dig (sgm ws 1 ct) = root
    · refine ⟨r, hr, fun M h => ?_, fun M h => ?_⟩
      · have h0 := h.vf (vC M)
        have v2 : Vf B M (si (si (si (si (si M B 2 0) B 4 (nI (num p))) B 5 1) B 6 (nI ct)) B 3 (nI (1 + ct))) := (((vC M).si (by decide)).si (by decide)).si (by decide)
        have h2 := h.vf v2
        obtain ⟨M2, t1, t2⟩ := rC _ 0 (4094 - p.length) h2 ⟨by
            rw [gi_si, if_neg (fun q => by have := q.2; omega), gi_si, if_neg (fun q => by have := q.2; omega), gi_si, if_neg (fun q => by have := q.2; omega), gi_si, if_neg (fun q => by have := q.2; omega), gi_si, if_pos ⟨rfl, rfl⟩], by
            rw [gi_si, if_pos ⟨rfl, rfl⟩], by
            rw [gi_si, if_neg (fun q => by have := q.2; omega), gi_si, if_neg (fun q => by have := q.2; omega), gi_si, if_neg (fun q => by have := q.2; omega), gi_si, if_pos ⟨rfl, rfl⟩], by
            rw [gi_si, if_neg (fun q => by have := q.2; omega), gi_si, if_neg (fun q => by have := q.2; omega), gi_si, if_pos ⟨rfl, rfl⟩]; rfl, by
            rw [gi_si, if_neg (fun q => by have := q.2; omega), gi_si, if_pos ⟨rfl, rfl⟩]⟩ (by omega)
        rw [show p.length + 2 + (4094 - p.length) = FU by unfold FU; omega, nI_0] at t1
        refine ⟨M2, ?_, v2.tr t2⟩
        have dd := digest_eq (G := G) (M := si (si (si (si (si M B 2 0) B 4 (nI (num p))) B 5 1) B 6 (nI ct)) B 3 (nI (1 + ct))) (w := w) (s := 1) (ws := sgm ws 1 ct) (by rw [hsl, h.2.1]; omega) (by rw [h.2.1]; decide) (by rw [hsl]; omega) (fun i hi => h2.2.2.2.2.1 _ _ (hseg i _ (List.getElem?_eq_getElem hi)))
        rw [hsl] at dd
        have dd : f_NT_digest G w 1 (nI ct) (si (si (si (si (si M B 2 0) B 4 (nI (num p))) B 5 1) B 6 (nI ct)) B 3 (nI (1 + ct))) = some (dig (sgm ws 1 ct)) := dd
        have gx : gl M w 0 = lN ct := (h.2.2.2.2.1 0 x e1).trans ex
        have ix0 : ix 0 199 = some 0 := by decide
        have e1c : (1 : Int32) + nI ct = nI (1 + ct) := nI_add 1 ct
        have d6 : gi (si (si (si (si M B 2 0) B 4 (nI (num p))) B 5 1) B 6 (nI ct)) B 6 = nI ct := by rw [gi_si, if_pos ⟨rfl, rfl⟩]
        have d7 : gi (si (si (si (si (si M B 2 0) B 4 (nI (num p))) B 5 1) B 6 (nI ct)) B 3 (nI (1 + ct))) B 6 = nI ct := by rw [gi_si, if_neg (fun q => by have := q.2; omega), d6]
        unfold f_PF_shows f_PF_takeTopReference
        simp only [st]
        rcases hr_eq h0 (p := 0) (by decide) with ⟨a, _⟩ | ⟨_, a⟩
        · rw [nI_0] at a
          rw [a, Option.bind_some, if_neg (by decide)]
          simp only [gr_si, gl_si, h.1, h.2.1, ix0, Option.bind_some, gx, lN_i, d6, e1c, d7, dd]
          rw [if_pos (lg_eq.mpr hd), Option.bind_some]
          exact t1
        · exact absurd ⟨x, ct, e1, e2, by omega⟩ a
      · have hR := h.1
        obtain ⟨q0, q1, q2, q3, q4, q5, q6, q7, g0, g1, g2, g3, g4, g5, g6, g7, -⟩ := hR
        obtain ⟨N, a1, a2, a12, a16, a15, a13, a14⟩ := refer_eq h hc2 (show 1 + ct ≤ ws.length by omega)
        have hN := h.vm a2
        have v3 : Vm mo N (si (si N mo 12 (nI (1 + ct))) mo 16 (nI (num p))) := (Vm.rf.si (by omega)).si (by omega)
        obtain ⟨M2, t1, t2⟩ := rM _ 0 (4094 - p.length) (hN.vm v3) ⟨by
            rw [gi_si, if_neg (fun q => by have := q.2; omega), gi_si, if_pos ⟨rfl, rfl⟩], by
            rw [gi_si, if_pos ⟨rfl, rfl⟩], by
            rw [gi_si, if_neg (fun q => by have := q.2; omega), gi_si, if_neg (fun q => by have := q.2; omega)]; exact a15, fun z y hy => a13 z y hy, fun z y hy => a14 z y hy⟩ (by omega)
        rw [show p.length + 2 + (4094 - p.length) = FU by unfold FU; omega, nI_0] at t1
        refine ⟨M2, ?_, a2.tr (v3.tr t2)⟩
        have dd := mdig_eq hN (sg := sgm ws 1 ct) (a := 1) hseg (by rw [hsl]; omega)
        rw [hsl] at dd
        have a1 : f_MO_refer G mo 1 (nI ct) M = some (1, N) := a1
        have dd : f_MO_digestOf G mo 1 (nI (1 + ct)) N = some (dig (sgm ws 1 ct)) := dd
        unfold f_MO_verify
        rw [if_neg hnn, h.2.1.1, if_neg (nI_ne0 (by omega) (by omega)), q7, g7, show ix 0 256 = some 0 from by decide, Option.bind_some, h.2.1.2 0 x e1]
        rcases few_eq x with ⟨b, _⟩ | ⟨_, b⟩
        · rw [b, if_neg (by decide), Option.bind_some]
          simp only [st]
          rw [h.2.1.2 0 x e1, ex, lN_i, a1, Option.bind_some]
          dsimp only
          rw [if_neg (by decide), show (1 : Int32) + nI ct = nI (1 + ct) from nI_add 1 ct]
          rw [dd, Option.bind_some, if_pos (lg_eq.mpr hd)]
          exact t1
        · rw [e2] at b; cases b
    · refine ⟨0, Or.inl rfl, fun M h => ?_, fun M h => ?_⟩
      · have h0 := h.vf (vC M)
        have v2 : Vf B M (si (si (si (si (si M B 2 0) B 4 (nI (num p))) B 5 1) B 6 (nI ct)) B 3 (nI (1 + ct))) := (((vC M).si (by decide)).si (by decide)).si (by decide)
        have h2 := h.vf v2
        have dd := digest_eq (G := G) (M := si (si (si (si (si M B 2 0) B 4 (nI (num p))) B 5 1) B 6 (nI ct)) B 3 (nI (1 + ct))) (w := w) (s := 1) (ws := sgm ws 1 ct) (by rw [hsl, h.2.1]; omega) (by rw [h.2.1]; decide) (by rw [hsl]; omega) (fun i hi => h2.2.2.2.2.1 _ _ (hseg i _ (List.getElem?_eq_getElem hi)))
        rw [hsl] at dd
        have dd : f_NT_digest G w 1 (nI ct) (si (si (si (si (si M B 2 0) B 4 (nI (num p))) B 5 1) B 6 (nI ct)) B 3 (nI (1 + ct))) = some (dig (sgm ws 1 ct)) := dd
        refine ⟨si (si (si (si (si (si M B 2 0) B 4 (nI (num p))) B 5 1) B 6 (nI ct)) B 3 (nI (1 + ct))) B 2 2, ?_, v2.si (by decide)⟩
        have gx : gl M w 0 = lN ct := (h.2.2.2.2.1 0 x e1).trans ex
        have ix0 : ix 0 199 = some 0 := by decide
        have e1c : (1 : Int32) + nI ct = nI (1 + ct) := nI_add 1 ct
        have d6 : gi (si (si (si (si M B 2 0) B 4 (nI (num p))) B 5 1) B 6 (nI ct)) B 6 = nI ct := by rw [gi_si, if_pos ⟨rfl, rfl⟩]
        have d7 : gi (si (si (si (si (si M B 2 0) B 4 (nI (num p))) B 5 1) B 6 (nI ct)) B 3 (nI (1 + ct))) B 6 = nI ct := by rw [gi_si, if_neg (fun q => by have := q.2; omega), d6]
        unfold f_PF_shows f_PF_takeTopReference
        simp only [st]
        rcases hr_eq h0 (p := 0) (by decide) with ⟨a, _⟩ | ⟨_, a⟩
        · rw [nI_0] at a
          rw [a, Option.bind_some, if_neg (by decide)]
          simp only [gr_si, gl_si, h.1, h.2.1, ix0, Option.bind_some, gx, lN_i, d6, e1c, d7, dd]
          rw [if_neg (fun z => hd (lg_eq.mp z)), Option.bind_some, show FU = 4095 + 1 from rfl, show (0 : Int32) = nI 0 from rfl]
          exact c_ref (by rw [gi_si, if_pos ⟨rfl, rfl⟩])
        · exact absurd ⟨x, ct, e1, e2, by omega⟩ a
      · have hR := h.1
        obtain ⟨q0, q1, q2, q3, q4, q5, q6, q7, g0, g1, g2, g3, g4, g5, g6, g7, -⟩ := hR
        obtain ⟨N, a1, a2, a12, a16, a15, a13, a14⟩ := refer_eq h hc2 (show 1 + ct ≤ ws.length by omega)
        have hN := h.vm a2
        have dd := mdig_eq hN (sg := sgm ws 1 ct) (a := 1) hseg (by rw [hsl]; omega)
        rw [hsl] at dd
        have a1 : f_MO_refer G mo 1 (nI ct) M = some (1, N) := a1
        have dd : f_MO_digestOf G mo 1 (nI (1 + ct)) N = some (dig (sgm ws 1 ct)) := dd
        refine ⟨N, ?_, a2⟩
        unfold f_MO_verify
        rw [if_neg hnn, h.2.1.1, if_neg (nI_ne0 (by omega) (by omega)), q7, g7, show ix 0 256 = some 0 from by decide, Option.bind_some, h.2.1.2 0 x e1]
        rcases few_eq x with ⟨b, _⟩ | ⟨_, b⟩
        · rw [b, if_neg (by decide), Option.bind_some]
          simp only [st]
          rw [h.2.1.2 0 x e1, ex, lN_i, a1, Option.bind_some]
          dsimp only
          rw [if_neg (by decide), show (1 : Int32) + nI ct = nI (1 + ct) from nI_add 1 ct]
          rw [dd, Option.bind_some, if_neg (fun z => hd (lg_eq.mp z))]
        · rw [e2] at b; cases b
  · refine ⟨0, Or.inl rfl, fun M h => ?_, fun M h => ?_⟩
    · have h0 := h.vf (vC M)
      refine ⟨si (si (si M B 2 0) B 4 (nI (num p))) B 2 2, ?_, (vC M).si (by decide)⟩
      unfold f_PF_shows f_PF_takeTopReference
      simp only [st]
      rcases hr_eq h0 (p := 0) (by decide) with ⟨_, a⟩ | ⟨a, _⟩
      · exact absurd a hno
      · rw [nI_0] at a
        rw [a, Option.bind_some, if_pos rfl, Option.bind_some, show FU = 4095 + 1 from rfl, show (0 : Int32) = nI 0 from rfl]
        exact c_ref (by rw [gi_si, if_pos ⟨rfl, rfl⟩])
    · have hR := h.1
      obtain ⟨q0, q1, q2, q3, q4, q5, q6, q7, g0, g1, g2, g3, g4, g5, g6, g7, -⟩ := hR
      unfold f_MO_verify
      rw [if_neg hnn, h.2.1.1]
      by_cases c : ws.length = 0
      · rw [c, if_pos nI_0]
        exact ⟨M, rfl, Vm.rf⟩
      · have e1 : ws[0]? = some ws[0] := List.getElem?_eq_getElem (by omega)
        rw [if_neg (nI_ne0 (by omega) (by omega)), q7, g7, show ix 0 256 = some 0 from by decide, Option.bind_some, h.2.1.2 0 _ e1]
        rcases few_eq ws[0] with ⟨b, d, e2⟩ | ⟨b, _⟩
        · have hd2 := (cn_some e2).1
          have hge : ws.length ≤ d := by
            refine Nat.le_of_not_lt (fun z => hno ⟨_, d, e1, e2, by omega⟩)
          rw [b, if_neg (by decide), Option.bind_some]
          simp only [st]
          rw [h.2.1.2 0 _ e1, (cn_some e2).2, lN_i]
          have rf0 : f_MO_refer G mo 1 (nI d) M = some (0, si M mo 15 (nI d)) := by
            unfold f_MO_refer
            simp only [st]
            have s11 : gi (si M mo 15 (nI d)) mo 11 = nI ws.length := by rw [gi_si, if_neg (fun q => by have := q.2; omega)]; exact h.2.1.1
            rw [show (1 : Int32) + nI d = nI (1 + d) from nI_add 1 d, s11, if_neg (nI_ge (show ws.length < 1 + d by omega) (by omega))]
          rw [rf0, Option.bind_some, if_pos rfl]
          exact ⟨_, rfl, Vm.rf.si (by omega)⟩
        · rw [b, if_pos rfl]
          exact ⟨M, rfl, Vm.rf⟩
end BW
