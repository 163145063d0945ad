/-! The relation of the two sides, and that every call keeps it. -/
def Cq (G : Nat → Nat) (M : Mm) (x k : Nat) (b t : Nat → Nat) (uu : Nat → Nat → Nat) (sg : Nat → Nat) (W : List Ent) (KL : Nat → List Ent) (n : Nat) (pr : List Int64) : Prop := CS G M x k b t uu sg W KL n ∧ gi M (b 1) 1 = nI pr.length ∧ (∀ (i : Nat) (y : Int64), pr[i]? = some y → gl M (b 2) i = y) ∧ (n = 0 → KL 0 = []) ∧ pr.length ≤ 199
def Mq (G : Nat → Nat) (M : Mm) (mo : Nat) (um : Nat → Nat) (W : List Ent) (KL : Nat → List Ent) (n k : Nat) (KK : Nat → List Ent) (PP : Nat → List (List Nat)) (pr : List Int64) : Prop := gi M mo 3 = nI n ∧ gi M mo 4 = nI k ∧ MpS G M mo um 0 (KK 0) W ∧ (∀ m, 1 ≤ m → m ≤ n → Mb G M mo um m (KK m) (KL (m - 1)) (PP m)) ∧ PwS M mo um pr
def Ctx (K G O : Nat → Nat) (x k : Nat) (b t : Nat → Nat) (uu : Nat → Nat → Nat) (mo : Nat) (um : Nat → Nat) : Prop := (K x = 5 ∧ O x = 1 ∧ K mo = 9 ∧ O mo = 2 ∧ (∀ j, j < 8 → O (um j) = 2)) ∧ ((∀ i, i < 3 → O (b i) = 1) ∧ (∀ j, j ≤ k → O (t j) = 1) ∧ ∀ j p, j ≤ k → p < 13 → O (uu j p) = 1) ∧ Dst x k b t uu ∧ 1 ≤ k ∧ k ≤ 3
def QQ (K G O : Nat → Nat) (Lf : List Nat) (x k : Nat) (b t : Nat → Nat) (uu : Nat → Nat → Nat) (mo : Nat) (um : Nat → Nat) (M : Mm) : Prop := ZI K G O Lf M ∧ ∃ (sg : Nat → Nat) (W : List Ent) (KL : Nat → List Ent) (n : Nat) (KK : Nat → List Ent) (PP : Nat → List (List Nat)) (pr : List Int64), Cq G M x k b t uu sg W KL n pr ∧ Mq G M mo um W KL n k KK PP pr
section RL
variable {K G O : Nat → Nat} {Lf : List Nat} {x k : Nat} {b t : Nat → Nat} {uu : Nat → Nat → Nat} {mo : Nat} {um : Nat → Nat} {M M1 M2 : Mm} {sg : Nat → Nat} {W : List Ent} {KL : Nat → List Ent} {n : Nat} {KK : Nat → List Ent} {PP : Nat → List (List Nat)} {pr : List Int64}
theorem CS.ints (hD : Dst x k b t uu) (h : CS G M x k b t uu sg W KL n) (hr : M2.2.2 = M.2.2) (hx : M2.1 x = M.1 x) (ht : ∀ j, j ≤ k → M2.1 (t j) = M.1 (t j)) (hu : ∀ j p, j ≤ k → p < 13 → M2.1 (uu j p) = M.1 (uu j p)) : CS G M2 x k b t uu sg W KL n := by
  have g : ∀ a j, gr M2 a j = gr M a j := fun a j => by show M2.2.2 a j = M.2.2 a j; rw [hr]
  obtain ⟨⟨c1, c2, c3, c4, c5, c6⟩, d2, d3, d4, d5, d6, d7⟩ := h
  refine ⟨⟨(g _ _).trans c1, (g _ _).trans c2, (g _ _).trans c3, (g _ _).trans c4, c5, c6⟩, ?_, d3, fun i hi => ⟨(d4 i hi).1, (d4 i hi).2.1, (g _ _).trans (d4 i hi).2.2⟩, d5, d6.off hr (ht 0 (by omega)) (fun p hp => hu 0 p (by omega) hp), fun i hi => (d7 i hi).off hr (ht _ (d4 i hi).2.1) (fun p hp => hu _ p (d4 i hi).2.1 hp)⟩
  show M2.1 x 2 = _
  rw [hx]; exact d2
theorem Cq.agr (c : Ctx K G O x k b t uu mo um) (a : Agr O 2 M M2) (hr : M2.2.2 = M.2.2) (h : Cq G M x k b t uu sg W KL n pr) : Cq G M2 x k b t uu sg W KL n pr := by
  obtain ⟨⟨k1, o1, k2, o2, o3⟩, ⟨p1, p2, p3⟩, hD, -⟩ := c
  obtain ⟨h1, h2, h3, h4, h5⟩ := h
  refine ⟨h1.ints hD hr (a x (by rw [o1]; decide)).1 (fun j hj => (a (t j) (by rw [p2 j hj]; decide)).1) (fun j p hj hp => (a (uu j p) (by rw [p3 j p hj hp]; decide)).1), ?_, fun i y hy => ?_, h4, h5⟩
  · show M2.1 (b 1) 1 = _
    rw [(a (b 1) (by rw [p1 1 (by omega)]; decide)).1]; exact h2
  · show M2.2.1 (b 2) i = y
    rw [(a (b 2) (by rw [p1 2 (by omega)]; decide)).2.1]; exact h3 i y hy
theorem ModelR.onm (h : ModelR G M mo um) (e : M2.2.2 mo = M.2.2 mo) : ModelR G M2 mo um := by
  have r : ∀ j, gr M2 mo j = gr M mo j := fun j => by show M2.2.2 mo j = M.2.2 mo j; rw [e]
  obtain ⟨r0, r1, r2, r3, r4, r5, r6, r7, hR⟩ := h
  exact ⟨(r 0).trans r0, (r 1).trans r1, (r 2).trans r2, (r 5).trans r3, (r 6).trans r4, (r 7).trans r5, (r 8).trans r6, (r 10).trans r7, hR⟩
theorem Mq.agr (c : Ctx K G O x k b t uu mo um) (a : Agr O 1 M M2) (h : Mq G M mo um W KL n k KK PP pr) : Mq G M2 mo um W KL n k KK PP pr := by
  obtain ⟨⟨k1, o1, k2, o2, o3⟩, -⟩ := c
  have am := a mo (by rw [o2]; decide)
  have au : ∀ j, j < 8 → M2.1 (um j) = M.1 (um j) ∧ M2.2.1 (um j) = M.2.1 (um j) := fun j hj => ⟨(a (um j) (by rw [o3 j hj]; decide)).1, (a (um j) (by rw [o3 j hj]; decide)).2.1⟩
  have mp : ∀ {m : Nat} {K' L' : List Ent}, MpS G M mo um m K' L' → MpS G M2 mo um m K' L' := fun q => ⟨q.1.onm am.2.2, q.2.1, q.2.2.1.of (au 0 (by omega)).1 (au 1 (by omega)).1 (au 2 (by omega)).1, q.2.2.2⟩
  obtain ⟨h1, h2, h3, h4, h5, h6⟩ := h
  refine ⟨?_, ?_, mp h3, fun m a1 a2 => ?_, ?_, fun i y hy => ?_⟩
  · show M2.1 mo 3 = _
    rw [am.1]; exact h1
  · show M2.1 mo 4 = _
    rw [am.1]; exact h2
  · obtain ⟨q1, q2, q3, q4⟩ := h4 m a1 a2
    refine ⟨mp q1, ?_, ?_, q4⟩
    · unfold PlS gi at *
      rw [(au 3 (by omega)).1, (au 5 (by omega)).1]
      exact q2
    · unfold PlD gl at *
      rw [(au 4 (by omega)).2]
      exact q3
  · show M2.1 mo 11 = _
    rw [am.1]; exact h5
  · show M2.2.1 (um 7) i = y
    rw [(au 7 (by omega)).2]; exact h6 i y hy
/-- the reference's maps change, the rest stays -/
theorem Mq.wk {W2 K2 : List Ent} (h : Mq G M mo um W KL n k KK PP pr) (s : Wk mo um M M2) (h0 : MpS G M2 mo um 0 K2 W2) (hm : ∀ m, 1 ≤ m → m ≤ n → Mb G M2 mo um m (KK m) (KL (m - 1)) (PP m)) : Mq G M2 mo um W2 KL n k (fun m => if m = 0 then K2 else KK m) PP pr := by
  obtain ⟨h1, h2, h3, h4, h5, h6⟩ := h
  refine ⟨?_, ?_, ?_, fun m a1 a2 => ?_, ?_, fun i y hy => ?_⟩
  · show M2.1 mo 3 = _
    rw [s.2.1 3 (by decide)]; exact h1
  · show M2.1 mo 4 = _
    rw [s.2.1 4 (by decide)]; exact h2
  · show MpS G M2 mo um 0 (if 0 = 0 then K2 else KK 0) W2
    rw [if_pos rfl]; exact h0
  · show Mb G M2 mo um m (if m = 0 then K2 else KK m) (KL (m - 1)) (PP m)
    rw [if_neg (by omega)]; exact hm m a1 a2
  · show M2.1 mo 11 = _
    rw [s.2.1 11 (by decide)]; exact h5
  · show M2.2.1 (um 7) i = y
    rw [s.2.2]; exact h6 i y hy
theorem CS.work {W2 : List Ent} (hD : Dst x k b t uu) (h : CS G M x k b t uu sg W KL n) (o : Only M M2 (tcs (t 0) (uu 0))) (ti : TrI G M2 (t 0) (uu 0) W2) : CS G M2 x k b t uu sg W2 KL n := by
  obtain ⟨hs, hn, hnk, hg, hi, hw, hkl⟩ := h
  have hr : M2.2.2 = M.2.2 := by rw [o.1]
  refine ⟨?_, ?_, hnk, ?_, hi, ti, fun i hik => ?_⟩
  · unfold CSt gr at *
    rw [hr]
    exact hs
  · show M2.1 x 2 = _
    rw [o.2 _ (hD.nx (by omega))]
    exact hn
  · intro i hik
    have := hg i hik
    refine ⟨this.1, this.2.1, ?_⟩
    show M2.2.2 (b 0) i = _
    rw [hr]
    exact this.2.2
  · have := hg i hik
    exact (hkl i hik).only hw.1.1 (hD.apt (by omega) this.2.1 (by omega)) o
theorem Cq.work {W2 : List Ent} (hD : Dst x k b t uu) (h : Cq G M x k b t uu sg W KL n pr) (o : Only M M2 (tcs (t 0) (uu 0))) (ti : TrI G M2 (t 0) (uu 0) W2) : Cq G M2 x k b t uu sg W2 KL n pr := by
  obtain ⟨h1, h2, h3, h4, h5⟩ := h
  refine ⟨h1.work hD o ti, ?_, fun i y hy => ?_, h4, h5⟩
  · show M2.1 (b 1) 1 = _
    rw [o.2 _ (hD.nbt (by omega) (by omega))]; exact h2
  · show M2.2.1 (b 2) i = y
    rw [o.1]; exact h3 i y hy
/-- words of the tries alone change -/
theorem Cq.mv (h : Cq G M x k b t uu sg W KL n pr) (m : Mvd b M M2) : Cq G M2 x k b t uu sg W KL n pr := by
  obtain ⟨h1, h2, h3, h4, h5⟩ := h
  refine ⟨h1.mv m.1 m.2.1, ?_, fun i y hy => ?_, h4, h5⟩
  · show M2.1 (b 1) 1 = _
    rw [m.1]; exact h2
  · show M2.2.1 (b 2) i = y
    rw [m.2.2]; exact h3 i y hy
theorem isk_no {a : Int32} (h : gi M x 2 = nI n) (ha : a < 0 ∨ nI n ≤ a) : f_NT_isKept G x a M = 0 := by
  unfold f_NT_isKept
  rw [h]
  by_cases c : a < 0
  · rw [if_pos c]
  · rw [if_neg c, if_pos (ha.resolve_left c)]
theorem isk_yes {j : Nat} (h : gi M x 2 = nI n) (hj : j < n) (hn : n < 2 ^ 31) : f_NT_isKept G x (nI j) M = 1 := by
  unfold f_NT_isKept
  rw [h, if_neg (nI_pos (by omega)), if_neg (nI_ge hj hn)]
theorem isv_no {a : Int32} (h : gi M mo 3 = nI n) (ha : a < 0 ∨ nI n ≤ a) : f_MO_isVersion G mo a M = 0 := by
  unfold f_MO_isVersion
  rw [h]
  by_cases c : a < 0
  · rw [if_pos c]
  · rw [if_neg c, if_pos (ha.resolve_left c)]
theorem isv_yes {j : Nat} (h : gi M mo 3 = nI n) (hj : j < n) (hn : n < 2 ^ 31) : f_MO_isVersion G mo (nI j) M = 1 := by
  unfold f_MO_isVersion
  rw [h, if_neg (nI_pos (by omega)), if_neg (nI_ge hj hn)]
theorem which (a : Int32) (hn : n < 2 ^ 31) : (a < 0 ∨ nI n ≤ a) ∨ ∃ j, j < n ∧ a = nI j := by
  rcases pk_ix a hn with h | h | h
  · exact Or.inl (Or.inl h)
  · exact Or.inl (Or.inr h)
  · exact Or.inr h
theorem vals_of {K' L' : List Ent} {m : Nat} (h : MpS G M mo um m K' L') (v : Int32) : vals v K' = vals v L' := vals_perm h.2.2.2.1 (h.2.2.2.2.keys.perm h.2.2.2.1.symm) v
theorem val_mo (h : MpS G M mo um 0 (KK 0) W) (a : Int32) : f_MO_get G mo a M = some (vals a W) := by
  unfold f_MO_get
  have := valueIn_eq h.1 h.2.1 h.2.2.1 a
  rw [nI_0] at this
  rw [this, Option.bind_some, vals_of h]
/-! The calls. -/
theorem ok_put (c : Ctx K G O x k b t uu mo um) (hz : ZI K G O Lf M) (hC : Cq G M x k b t uu sg W KL n pr) (hM : Mq G M mo um W KL n k KK PP pr) (a v : Int32) : Both (QQ K G O Lf x k b t uu mo um) (f_NT_put G x a v) (f_MO_put G mo a v) M := by
  have hQ : QQ K G O Lf x k b t uu mo um M := ⟨hz, sg, W, KL, n, KK, PP, pr, hC, hM⟩
  by_cases ha : f_MO_nibbles a < 0
  · refine ⟨0, M, M, ?_, ?_, hQ⟩
    · unfold f_NT_put
      rw [if_pos ((valid_iff a).mpr ha)]
    · unfold f_MO_put
      rw [if_neg (Int32.not_le.mpr ha)]
  · obtain ⟨p, hp, rfl⟩ := valid_of ha
    have hD := c.2.2.1
    have hW := hC.1.2.2.2.2.2.1
    obtain ⟨M1, W2, e1, ti, o, pm⟩ := change_eq hW hp (v := v)
    have e1' : f_NT_put G x (nI (num p)) v M = some (vals (nI (num p)) W, M1) := by
      unfold f_NT_put
      rw [if_neg (fun z => ha ((valid_iff _).mp z)), hC.1.1.1, e1]
      rfl
    obtain ⟨a1, z1⟩ := fo_NT_put x (nI (num p)) v M c.1.1 c.1.2.1 hz e1'
    have hM1 : Mq G M1 mo um W KL n k KK PP pr := hM.agr c a1
    have hC1 := hC.work hD o ti
    obtain ⟨M2, K2, e2, rk, pt, pm2⟩ := mput_eq hM1.2.2.1 hp (v := v)
    rw [vals_of hM1.2.2.1] at e2
    obtain ⟨a2, z2⟩ := fo_MO_put mo (nI (num p)) v M1 c.1.2.2.1 c.1.2.2.2.1 z1 e2
    have hr : M2.2.2 = M1.2.2 := by rw [pt.1]
    have hR := hM1.2.2.1.1
    have pmm : K2.Perm W2 := pm2.trans ((chg_perm hM1.2.2.1.2.2.2.1).trans pm.symm)
    have hM2 := hM1.wk (pt.wk hR) ⟨hR.ref hr, by omega, rk, pmm, ti.1.2.2⟩ (fun m m1 m2 => (hM1.2.2.2.1 m m1 m2).pt m1 pt)
    exact ⟨_, M1, M2, e1', e2, z2, sg, W2, KL, n, _, PP, pr, hC1.agr c a2 hr, hM2⟩
theorem ok_get (c : Ctx K G O x k b t uu mo um) (hz : ZI K G O Lf M) (hC : Cq G M x k b t uu sg W KL n pr) (hM : Mq G M mo um W KL n k KK PP pr) (a : Int32) : ∃ r, f_NT_get G x a M = some r ∧ f_MO_get G mo a M = some r := by
  have hW := hC.1.2.2.2.2.2.1
  refine ⟨vals a W, ?_, val_mo hM.2.2.1 a⟩
  unfold f_NT_get
  rw [hC.1.1.1, hW.1.1.1.1, valueOf_eq hW.1.2.1]
  rfl
theorem ok_size (c : Ctx K G O x k b t uu mo um) (hz : ZI K G O Lf M) (hC : Cq G M x k b t uu sg W KL n pr) (hM : Mq G M mo um W KL n k KK PP pr) : f_MO_size G mo M = some (f_NT_size G x M) := by
  have hW := hC.1.2.2.2.2.2.1
  have hR := hM.2.2.1.1
  obtain ⟨r0, r1, r2, r3, r4, r5, r6, r7, g0, g1, g2, -⟩ := hR
  unfold f_MO_size f_NT_size
  rw [r2, g2, ix04, Option.bind_some, hM.2.2.1.2.2.1.2.1, hC.1.1.1, hW.1.1.1.1, hW.1.2.1.2.2.2.1, hM.2.2.1.2.2.2.1.length_eq]
theorem ok_root (c : Ctx K G O x k b t uu mo um) (hz : ZI K G O Lf M) (hC : Cq G M x k b t uu sg W KL n pr) (hM : Mq G M mo um W KL n k KK PP pr) : Both (QQ K G O Lf x k b t uu mo um) (f_NT_root G x) (f_MO_root G mo) M := by
  have hD := c.2.2.1
  have hW := hC.1.2.2.2.2.2.1
  obtain ⟨M1, e1, s1, s2, s3⟩ := root_eq hW.1
  have e1' : f_NT_root G x M = some (dig (refW dg W), M1) := by
    unfold f_NT_root
    rw [hC.1.1.1, e1]
    rfl
  obtain ⟨a1, z1⟩ := fo_NT_root x M c.1.1 c.1.2.1 hz e1'
  have hM1 : Mq G M1 mo um W KL n k KK PP pr := hM.agr c a1
  have hC1 := hC.mv ⟨s1, s2, s3 _ (hD.2.2.2.2.2.2.2.1 2 0 7 (by omega) (by omega) (by omega)) (fun j hj => hD.2.2.2.2.2.2.2.1 2 0 (9 + j) (by omega) (by omega) (by omega))⟩
  obtain ⟨N, ps, e2, bl, m2, p2, d2, n2, c2⟩ := build_eq hM1.2.2.1
  obtain ⟨M2, e3, sy⟩ := rootOf_eq m2 p2 d2 c2
  rw [nI_0] at e3
  have e2' : f_MO_root G mo M1 = some (dig (refW dg W), M2) := by
    unfold f_MO_root
    rw [e2, Option.bind_some, e3]
    rfl
  obtain ⟨a2, z2⟩ := fo_MO_root mo M1 c.1.2.2.1 c.1.2.2.2.1 z1 e2'
  have hR := hM1.2.2.1.1
  have hr : M2.2.2 = M1.2.2 := sy.1.trans bl.1
  have hM2 := hM1.wk ((bl.wk hR).tr (sy.wk m2.1)) (m2.say sy) (fun m h1 h2 => ((hM1.2.2.2.1 m h1 h2).bld h1 bl).say sy)
  exact ⟨_, M1, M2, e1', e2', z2, sg, W, KL, n, _, PP, pr, hC1.agr c a2 hr, hM2⟩
theorem ok_count (c : Ctx K G O x k b t uu mo um) (hz : ZI K G O Lf M) (hC : Cq G M x k b t uu sg W KL n pr) (hM : Mq G M mo um W KL n k KK PP pr) (a : Int32) : ∃ M2, f_MO_count G mo a M = some (f_NT_count G x a M, M2) ∧ QQ K G O Lf x k b t uu mo um M2 := by
  have hW := hC.1.2.2.2.2.2.1
  obtain ⟨M2, ps, e2, bl, mb⟩ := mcount_eq (a := a) hM.2.2.1
  obtain ⟨a2, z2⟩ := fo_MO_count mo a M c.1.2.2.1 c.1.2.2.2.1 hz e2
  have hR := hM.2.2.1.1
  have hM2 := hM.wk (bl.wk hR) mb.1 (fun m h1 h2 => (hM.2.2.2.1 m h1 h2).bld h1 bl)
  refine ⟨M2, ?_, z2, sg, W, KL, n, _, PP, pr, hC.agr c a2 bl.1, hM2⟩
  rw [e2]
  unfold f_NT_count
  rw [hC.1.1.1, hW.2.1, hW.2.2.1, hW.2.2.2.1]
theorem ok_crash (c : Ctx K G O x k b t uu mo um) (hz : ZI K G O Lf M) (hC : Cq G M x k b t uu sg W KL n pr) (hM : Mq G M mo um W KL n k KK PP pr) : Both (QQ K G O Lf x k b t uu mo um) (f_NT_crash G x) (f_MO_crash G mo) M := by
  have hD := c.2.2.1
  have hk := c.2.2.2.1
  have hk3 := c.2.2.2.2
  have hnk := hC.1.2.2.1
  obtain ⟨M1, e1, cs, o⟩ := goDown_eq hD hk hk3 hC.1
  have hW1 := cs.2.2.2.2.2.1
  have e1' : f_NT_crash G x M = some (nI (KL 0).length, M1) := by
    unfold f_NT_crash
    rw [e1, Option.bind_some, cs.1.1, hW1.1.1.1.1, hW1.1.2.1.2.2.2.1]
  obtain ⟨a1, z1⟩ := fo_NT_crash x M c.1.1 c.1.2.1 hz e1'
  have hM1 : Mq G M1 mo um W KL n k KK PP pr := hM.agr c a1
  have hC1 := hC.work hD o hW1
  obtain ⟨M2, K2, e2, m0, mm, wk⟩ := back_eq (LL := fun m => KL (m - 1)) (KK := KK) (PP := PP) (n := n) (by omega) hM1.1 hM1.2.2.1 hM1.2.2.2.1
  have e0 : (if n = 0 then [] else KL (1 - 1)) = KL 0 := by
    by_cases q : n = 0
    · rw [if_pos q, hC.2.2.2.1 q]
    · rw [if_neg q]
  have m0 : MpS G M2 mo um 0 K2 (KL 0) := by rw [← e0]; exact m0
  have hR := m0.1
  obtain ⟨r0, r1, r2, r3, r4, r5, r6, r7, g0, g1, g2, -⟩ := hR
  have e2' : f_MO_crash G mo M1 = some (nI (KL 0).length, M2) := by
    unfold f_MO_crash
    rw [e2, Option.bind_some, r2, g2, ix04, Option.bind_some, m0.2.2.1.2.1, m0.2.2.2.1.length_eq]
  obtain ⟨a2, z2⟩ := fo_MO_crash mo M1 c.1.2.2.1 c.1.2.2.2.1 z1 e2'
  exact ⟨_, M1, M2, e1', e2', z2, sg, KL 0, KL, n, _, PP, pr, hC1.agr c a2 wk.1, hM1.wk wk m0 mm⟩
theorem ok_versions (c : Ctx K G O x k b t uu mo um) (hz : ZI K G O Lf M) (hC : Cq G M x k b t uu sg W KL n pr) (hM : Mq G M mo um W KL n k KK PP pr) : f_NT_versions G x M = f_MO_versions G mo M := by
  unfold f_NT_versions f_MO_versions
  rw [hC.1.2.1, hM.1]
theorem ok_at (c : Ctx K G O x k b t uu mo um) (hz : ZI K G O Lf M) (hC : Cq G M x k b t uu sg W KL n pr) (hM : Mq G M mo um W KL n k KK PP pr) (a v : Int32) : ∃ r, f_NT_at G x a v M = some r ∧ f_MO_at G mo a v M = some r := by
  have hk3 := c.2.2.2.2
  have hnk := hC.1.2.2.1
  unfold f_NT_at f_MO_at
  rcases which (n := n) a (by omega) with h | ⟨j, hj, rfl⟩
  · rw [isk_no hC.1.2.1 h, isv_no hM.1 h, if_pos rfl, if_pos rfl]
    exact ⟨0, rfl, rfl⟩
  · obtain ⟨p1, p2, p3⟩ := hC.1.tri hk3 hj
    have hm := hM.2.2.2.1 (j + 1) (by omega) (by omega)
    rw [isk_yes hC.1.2.1 hj (by omega), isv_yes hM.1 hj (by omega), if_neg (by decide), if_neg (by decide), p1, Option.bind_some, p2, p3.1.1.1.1, valueOf_eq p3.1.2.1, nI_1, valueIn_eq hm.1.1 hm.1.2.1 hm.1.2.2.1, vals_of hm.1]
    exact ⟨_, rfl, rfl⟩
theorem ok_rootAt (c : Ctx K G O x k b t uu mo um) (hz : ZI K G O Lf M) (hC : Cq G M x k b t uu sg W KL n pr) (hM : Mq G M mo um W KL n k KK PP pr) (a : Int32) : Both (QQ K G O Lf x k b t uu mo um) (f_NT_rootAt G x a) (f_MO_rootAt G mo a) M := by
  have hD := c.2.2.1
  have hk3 := c.2.2.2.2
  have hnk := hC.1.2.2.1
  rcases which (n := n) a (by omega) with h | ⟨j, hj, rfl⟩
  · refine ⟨0, M, M, ?_, ?_, hz, sg, W, KL, n, KK, PP, pr, hC, hM⟩
    · unfold f_NT_rootAt
      rw [isk_no hC.1.2.1 h, if_pos rfl]
    · unfold f_MO_rootAt
      rw [isv_no hM.1 h, if_pos rfl]
  · obtain ⟨p1, p2, p3⟩ := hC.1.tri hk3 hj
    have hsg := (hC.1.2.2.2.1 j (by omega)).2.1
    obtain ⟨M1, e1, s1, s2, s3⟩ := root_eq p3.1
    have e1' : f_NT_rootAt G x (nI j) M = some (dig (refW dg (KL j)), M1) := by
      unfold f_NT_rootAt
      rw [isk_yes hC.1.2.1 hj (by omega), if_neg (by decide), p1, Option.bind_some, p2, e1]
      rfl
    obtain ⟨a1, z1⟩ := fo_NT_rootAt x (nI j) M c.1.1 c.1.2.1 hz e1'
    have hM1 : Mq G M1 mo um W KL n k KK PP pr := hM.agr c a1
    have hC1 := hC.mv ⟨s1, s2, s3 _ (hD.2.2.2.2.2.2.2.1 2 _ 7 (by omega) hsg (by omega)) (fun i hi => hD.2.2.2.2.2.2.2.1 2 _ (9 + i) (by omega) hsg (by omega))⟩
    have hm := hM1.2.2.2.1 (j + 1) (by omega) (by omega)
    obtain ⟨M2, e2, sy⟩ := rootOf_eq hm.1 hm.2.1 hm.2.2.1 hm.2.2.2.2
    have e2' : f_MO_rootAt G mo (nI j) M1 = some (dig (refW dg (KL j)), M2) := by
      unfold f_MO_rootAt
      rw [isv_yes hM1.1 hj (by omega), if_neg (by decide), nI_1, e2]
      rfl
    obtain ⟨a2, z2⟩ := fo_MO_rootAt mo (nI j) M1 c.1.2.2.1 c.1.2.2.2.1 z1 e2'
    exact ⟨_, M1, M2, e1', e2', z2, sg, W, KL, n, _, PP, pr, hC1.agr c a2 sy.1, hM1.wk (sy.wk hm.1.1) (hM1.2.2.1.say sy) (fun m h1 h2 => (hM1.2.2.2.1 m h1 h2).say sy)⟩
theorem mq_kinds (c : Ctx K G O x k b t uu mo um) (hz : ZI K G O Lf M) (hC : Cq G M x k b t uu sg W KL n pr) (hM : Mq G M mo um W KL n k KK PP pr) : ∀ m, 1 ≤ m → m ≤ n → Srt (KL (m - 1)) ∧ (PP m).Nodup ∧ Cpl (KL (m - 1)) (PP m) ∧ (PP m).length ≤ 16 := fun m h1 h2 => by
  obtain ⟨q1, q2, q3, q4, q5⟩ := hM.2.2.2.1 m h1 h2
  exact ⟨q1.2.2.2.2, q4, q5, q2.1⟩
theorem ok_stored (c : Ctx K G O x k b t uu mo um) (hz : ZI K G O Lf M) (hC : Cq G M x k b t uu sg W KL n pr) (hM : Mq G M mo um W KL n k KK PP pr) : ∃ r, f_NT_stored G x M = some r ∧ f_MO_stored G mo M = some r := by
  have hk3 := c.2.2.2.2
  have hnk := hC.1.2.2.1
  have hp := kinds_perm (LL := fun m => KL (m - 1)) (KL := KL) (mq_kinds c hz hC hM) (fun i hi => by show KL (i + 1 - 1) = KL i; rw [Nat.add_sub_cancel]) n (Nat.le_refl _)
  refine ⟨_, stored_eq hC.1 hk3, ?_⟩
  rw [mstored_eq (KK := KK) (LL := fun m => KL (m - 1)) (PP := PP) hM.2.2.1.1 hM.1 (by omega) hM.2.2.2.1, kinds_all (by omega), fsum_perm hp]
theorem ok_uses (c : Ctx K G O x k b t uu mo um) (hz : ZI K G O Lf M) (hC : Cq G M x k b t uu sg W KL n pr) (hM : Mq G M mo um W KL n k KK PP pr) (d : Int64) : ∃ r M1, f_NT_uses G x d M = some (r, M1) ∧ f_MO_uses G mo d M1 = some r ∧ QQ K G O Lf x k b t uu mo um M1 := by
  have hk3 := c.2.2.2.2
  have hnk := hC.1.2.2.1
  obtain ⟨M1, e1, mv⟩ := uses_eq c.2.2.1 hk3 hC.1 d
  obtain ⟨a1, z1⟩ := fo_NT_uses x d M c.1.1 c.1.2.1 hz e1
  have hM1 : Mq G M1 mo um W KL n k KK PP pr := hM.agr c a1
  refine ⟨_, M1, e1, ?_, z1, sg, W, KL, n, KK, PP, pr, hC.mv mv, hM1⟩
  rw [muses_eq (KK := KK) (LL := fun m => KL (m - 1)) (PP := PP) hM1.2.2.1.1 hM1.1 (by omega) hM1.2.2.2.1 d, uses_both (KL := KL) (by omega) (mq_kinds c hz hC hM) (fun i hi => by show KL (i + 1 - 1) = KL i; rw [Nat.add_sub_cancel]) d]
end RL
