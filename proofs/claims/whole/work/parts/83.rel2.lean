/-! The relation: commit, and the calls about proofs. -/
section R2
variable {K G O : Nat → Nat} {Lf : List Nat} {x k : Nat} {b t : Nat → Nat} {uu : Nat → Nat → Nat} {mo : Nat} {um : Nat → Nat} {M M1 M2 : Mm} {sg : Nat → Nat} {W : List Ent} {KL : Nat → List Ent} {n : Nat} {KK : Nat → List Ent} {PP : Nat → List (List Nat)} {pr : List Int64}
/-- the reference's commit up to its count -/
theorem mcommit_eq (hn : n ≤ k) (hk3 : k ≤ 3) {w : Int32} (h : Mq G M mo um W KL n k KK PP pr) : ∃ N ps f, f_MO_commit G mo w M = f_MO_commit_9 G (f + 1) mo w (nI (fsum (fun _ => 1) (vsn KL n) (kd W))) (nI ps.length) N ∧ Bld mo um M N ∧ Mb G N mo um 0 (KK 0) W ps ∧ (∀ m, 1 ≤ m → m ≤ n → Mb G N mo um m (KK m) (KL (m - 1)) (PP m)) := by
  obtain ⟨N, ps, e, bl, m2, p2, d2, n2, c2⟩ := build_eq h.2.2.1
  have h0 : Mb G N mo um 0 (KK 0) W ps := ⟨m2, p2, d2, n2, c2⟩
  have hm := fun m h1 h2 => (h.2.2.2.1 m h1 h2).bld h1 bl
  refine ⟨N, ps, 4095 - ps.length, ?_, bl, h0, hm⟩
  have p1 := p2.1
  have h3 : gi N mo 3 = nI n := by
    show N.1 mo 3 = _
    rw [bl.2.2.1 3 (by decide)]; exact h.1
  have hv : ∀ m, 1 ≤ m → m ≤ n → Mb G N mo um m (KK m) (rotL W KL m) (if m = 0 then ps else PP m) := fun m h1 h2 => by
    unfold rotL
    rw [if_neg (by omega), if_neg (by omega)]
    exact hm m h1 h2
  have lp := cm9_loop (KK := KK) (LL := rotL W KL) (PP := fun m => if m = 0 then ps else PP m) (w := w) h3 (show n ≤ 3 by omega) hv h0 ps 0 (4095 - ps.length) 0 rfl (Nat.zero_le _)
  have lp : f_MO_commit_9 G (ps.length + (4095 - ps.length) + 1) mo w (nI 0) (nI 0) N = f_MO_commit_9 G (4095 - ps.length + 1) mo w (nI (0 + fsum (fun _ => 1) ((ps.map (fun p => rl p W)).take 0 ++ (List.range' 16 (16 * n)).flatMap (dk n (rotL W KL) (fun m => if m = 0 then ps else PP m))) (ps.map (fun p => rl p W)))) (nI ps.length) N := lp
  have hp := kinds_perm (n := n) (LL := rotL W KL) (KL := KL) (PP := fun m => if m = 0 then ps else PP m) (fun m h1 h2 => by
    obtain ⟨q1, q2, q3, q4, q5⟩ := hv m h1 h2
    exact ⟨q1.2.2.2.2, q4, q5, q2.1⟩) (fun i _ => by unfold rotL; rw [if_neg (by omega)]; rfl) n (Nat.le_refl _)
  rw [show ps.length + (4095 - ps.length) + 1 = FU by unfold FU; omega, nI_0, List.take_zero, List.nil_append, Nat.zero_add, fsum_seen _ _ (vsn KL n) (fun B => hp.mem_iff), fsum_perm (ps_kinds m2.2.2.2.2 n2 c2)] at lp
  unfold f_MO_commit
  rw [e, Option.bind_some]
  exact lp
theorem CS.pf (hD : Dst x k b t uu) (h : CS G M x k b t uu sg W KL n) (hr : M2.2.2 = M.2.2) (hi : ∀ c, c ≠ b 1 → M2.1 c = M.1 c) : CS G M2 x k b t uu sg W KL n := h.ints hD hr (hi _ (hD.2.2.2.2.2.1 1 (by omega))) (fun j hj => hi _ (fun q => hD.2.2.2.2.2.2.1 1 j (by omega) hj q.symm)) (fun j p hj hp => hi _ (fun q => hD.2.2.2.2.2.2.2.1 1 j p (by omega) hj hp q.symm))
theorem PwS.of (h : PwS M mo um pr) (h1 : M2.1 mo 11 = M.1 mo 11) (h2 : M2.2.1 (um 7) = M.2.1 (um 7)) : PwS M2 mo um pr := ⟨by show M2.1 mo 11 = _; rw [h1]; exact h.1, fun i y hy => by show M2.2.1 (um 7) i = y; rw [h2]; exact h.2 i y hy⟩
theorem Mq.ap {pr2 : List Int64} (h : Mq G M mo um W KL n k KK PP pr) (s : Ap mo um M M2) (hp : PwS M2 mo um pr2) : Mq G M2 mo um W KL n k KK PP pr2 := by
  obtain ⟨h1, h2, h3, h4, h5⟩ := h
  refine ⟨?_, ?_, h3.ap s, fun m a1 a2 => (h4 m a1 a2).ap s, hp⟩
  · show M2.1 mo 3 = _
    rw [s.2.2.1 3 (Or.inl rfl)]; exact h1
  · show M2.1 mo 4 = _
    rw [s.2.2.1 4 (Or.inr rfl)]; exact h2
theorem ok_commit (c : Ctx K G O x k b t uu mo um) (hz : ZI K G O Lf M) (hC : Cq G M x k b t uu sg W KL n pr) (hM : Mq G M mo um W KL n k KK PP pr) (a : Int32) : Both (QQ K G O Lf x k b t uu mo um) (f_NT_commit G x a) (f_MO_commit G mo a) M := by
  have hD := c.2.2.1
  have hk := c.2.2.2.1
  have hk3 := c.2.2.2.2
  have hnk := hC.1.2.2.1
  have eb := btw_eq hC.1 hk3
  by_cases ca : nI (fsum (fun _ => 1) (vsn KL n) (kd W)) + 1 ≤ a
  · obtain ⟨M1, e1, cs, f1, f2⟩ := keep_eq hD hk hk3 hC.1
    have e1' : f_NT_commit G x a M = some (nI (fsum (fun _ => 1) (vsn KL n) (kd W)), M1) := by
      unfold f_NT_commit
      rw [eb, Option.bind_some, if_pos ca, e1]
      rfl
    obtain ⟨a1, z1⟩ := fo_NT_commit x a M c.1.1 c.1.2.1 hz e1'
    have hM1 : Mq G M1 mo um W KL n k KK PP pr := hM.agr c a1
    have hC1 : Cq G M1 x k b t uu (rot k sg) W (rotL W KL) (min (n + 1) k) pr := by
      refine ⟨cs, ?_, fun i y hy => ?_, fun q => by omega, hC.2.2.2.2⟩
      · show M1.1 (b 1) 1 = _
        rw [f1]; exact hC.2.1
      · show M1.2.1 (b 2) i = y
        rw [f2]; exact hC.2.2.1 i y hy
    obtain ⟨N, ps, f, e2, bl, h0, hm⟩ := mcommit_eq hnk hk3 (w := a) hM1
    have h3 : gi N mo 3 = nI n := by
      show N.1 mo 3 = _
      rw [bl.2.2.1 3 (by decide)]; exact hM1.1
    have h4 : gi N mo 4 = nI k := by
      show N.1 mo 4 = _
      rw [bl.2.2.1 4 (by decide)]; exact hM1.2.1
    have fr : ∀ (y : Int32), N.2.2 = (si N mo 3 y).2.2 ∧ (∀ c, c ≠ mo → (si N mo 3 y).1 c = N.1 c) := fun y => ⟨rfl, fun c hc => si_ne hc⟩
    have mbs : ∀ {m : Nat} {K' L' : List Ent} {ps' : List (List Nat)} (y : Int32), Mb G N mo um m K' L' ps' → Mb G (si N mo 3 y) mo um m K' L' ps' := fun y q => q.fr rfl (fun c hc => si_ne hc) (fun _ _ _ _ => rfl)
    have hle : min (n + 1) k ≤ 3 := by omega
    have hb0 := mbs (nI (min (n + 1) k)) h0
    obtain ⟨M2, e3, g1, g2, g3⟩ := c87_loop (G := G) (mo := mo) (um := um) (KK := KK) (LL := rotL W KL) (PP := fun m => if m = 0 then ps else PP m) (n' := min (n + 1) k) (v := nI (fsum (fun _ => 1) (vsn KL n) (kd W))) hle (min (n + 1) k) (4095 - min (n + 1) k) (si N mo 3 (nI (min (n + 1) k))) (Nat.le_refl _) hb0.1.1 (fun m hm' => by
      by_cases q : m = 0
      · subst q; exact hb0
      · have := mbs (nI (min (n + 1) k)) (hm m (by omega) (by omega))
        show Mb G _ mo um m (KK m) (if m = 0 then W else KL (m - 1)) (if m = 0 then ps else PP m)
        rw [if_neg q, if_neg q]
        exact this) (fun m h1 h2 => absurd h2 (by omega)) hb0
    rw [show min (n + 1) k + (4095 - min (n + 1) k) + 1 = FU by unfold FU; omega] at e3
    have hR := h0.1.1
    obtain ⟨r0, r1, r2, r3, r4, r5, r6, r7, q0, q1, q2, q3, q4, q5, q6, q7, -⟩ := hR
    have p1 := h0.2.1.1
    have e2' : f_MO_commit G mo a M1 = some (nI (fsum (fun _ => 1) (vsn KL n) (kd W)), M2) := by
      rw [e2, f_MO_commit_9, r5, q5, ix04, Option.bind_some, h0.2.1.2.1, if_pos (Int32.le_refl _), if_pos ca, h3, h4]
      by_cases q : k ≤ n
      · rw [if_pos (nI_le q (by omega))]
        simp only [st]
        rw [gi_si, if_pos ⟨rfl, rfl⟩]
        rw [show min (n + 1) k = n by omega] at e3
        exact e3
      · rw [if_neg (nI_ge (show n < k by omega) (by omega))]
        simp only [st]
        rw [gi_si, if_pos ⟨rfl, rfl⟩, nI_1]
        rw [show min (n + 1) k = n + 1 by omega] at e3
        exact e3
    obtain ⟨a2, z2⟩ := fo_MO_commit mo a M1 c.1.2.2.1 c.1.2.2.2.1 z1 e2'
    have hr : M2.2.2 = M1.2.2 := g3.1.trans bl.1
    refine ⟨_, M1, M2, e1', e2', z2, rot k sg, W, rotL W KL, min (n + 1) k, fun m => if m = 0 then KK 0 else KK (m - 1), fun m => (fun m => if m = 0 then ps else PP m) (m - 1), pr, hC1.agr c a2 hr, ?_, ?_, g2.1, fun m h1 h2 => ?_, ?_⟩
    · show M2.1 mo 3 = _
      rw [g3.2.1 3 (by decide)]
      show gi (si N mo 3 (nI (min (n + 1) k))) mo 3 = _
      rw [gi_si, if_pos ⟨rfl, rfl⟩]
    · show M2.1 mo 4 = _
      rw [g3.2.1 4 (by decide)]
      show gi (si N mo 3 (nI (min (n + 1) k))) mo 4 = _
      rw [gi_si, if_neg (fun q => by have := q.2; omega)]
      exact h4
    · have := g1 (m - 1) (by omega)
      rw [show m - 1 + 1 = m by omega] at this
      show Mb G M2 mo um m (if m = 0 then KK 0 else KK (m - 1)) (rotL W KL (m - 1)) (if m - 1 = 0 then ps else PP (m - 1))
      rw [if_neg (show ¬ m = 0 by omega)]
      exact this
    · refine hM1.2.2.2.2.of ?_ (g3.2.2.trans ((bl.wk hM1.2.2.1.1).2.2))
      rw [g3.2.1 11 (by decide)]
      show gi (si N mo 3 (nI (min (n + 1) k))) mo 11 = M1.1 mo 11
      rw [gi_si, if_neg (fun q => by have := q.2; omega)]
      exact bl.2.2.1 11 (by decide)
  · obtain ⟨M1, e1, cs, o⟩ := goDown_eq hD hk hk3 hC.1
    have hW1 := cs.2.2.2.2.2.1
    have e1' : f_NT_commit G x a M = some (-1, M1) := by
      unfold f_NT_commit
      rw [eb, Option.bind_some, if_neg ca, e1]
      rfl
    obtain ⟨a1, z1⟩ := fo_NT_commit x a M c.1.1 c.1.2.1 hz e1'
    have hM1 : Mq G M1 mo um W KL n k KK PP pr := hM.agr c a1
    have hC1 := hC.work hD o hW1
    obtain ⟨N, ps, f, e2, bl, h0, hm⟩ := mcommit_eq hnk hk3 (w := a) hM1
    have h3 : gi N mo 3 = nI n := by
      show N.1 mo 3 = _
      rw [bl.2.2.1 3 (by decide)]; exact hM1.1
    obtain ⟨M2, K2, e3, m0, mm, wk⟩ := back_eq (LL := fun m => KL (m - 1)) (KK := KK) (PP := PP) (n := n) (by omega) h3 h0.1 hm
    have e0 : (if n = 0 then [] else KL (1 - 1)) = KL 0 := by
      by_cases q : n = 0
      · rw [if_pos q, hC.2.2.2.1 q]
      · rw [if_neg q]
    have m0 : MpS G M2 mo um 0 K2 (KL 0) := by rw [← e0]; exact m0
    have hR := h0.1.1
    obtain ⟨r0, r1, r2, r3, r4, r5, r6, r7, q0, q1, q2, q3, q4, q5, q6, q7, -⟩ := hR
    have e2' : f_MO_commit G mo a M1 = some (-1, M2) := by
      rw [e2, f_MO_commit_9, r5, q5, ix04, Option.bind_some, h0.2.1.2.1, if_pos (Int32.le_refl _), if_neg ca, e3]
      rfl
    obtain ⟨a2, z2⟩ := fo_MO_commit mo a M1 c.1.2.2.1 c.1.2.2.2.1 z1 e2'
    exact ⟨_, M1, M2, e1', e2', z2, sg, KL 0, KL, n, _, PP, pr, hC1.agr c a2 (wk.1.trans bl.1), hM1.wk ((bl.wk hM1.2.2.1.1).tr wk) m0 mm⟩
theorem ok_prove (c : Ctx K G O x k b t uu mo um) (hz : ZI K G O Lf M) (hC : Cq G M x k b t uu sg W KL n pr) (hM : Mq G M mo um W KL n k KK PP pr) (a v : Int32) : Both (QQ K G O Lf x k b t uu mo um) (f_NT_prove G x a v) (f_MO_prove G mo a v) M := by
  have hQ : QQ K G O Lf x k b t uu mo um M := ⟨hz, sg, W, KL, n, KK, PP, pr, hC, hM⟩
  have hD := c.2.2.1
  have hk3 := c.2.2.2.2
  have hnk := hC.1.2.2.1
  rcases which (n := n) a (by omega) with h | ⟨j, hj, rfl⟩
  · refine ⟨-1, M, M, ?_, ?_, hQ⟩
    · unfold f_NT_prove
      rw [isk_no hC.1.2.1 h, if_pos rfl]
    · unfold f_MO_prove
      rw [isv_no hM.1 h, if_pos rfl]
  · by_cases hv : f_MO_nibbles v < 0
    · refine ⟨-1, M, M, ?_, ?_, hQ⟩
      · unfold f_NT_prove
        rw [isk_yes hC.1.2.1 hj (by omega), if_neg (by decide), if_pos ((valid_iff v).mpr hv)]
      · unfold f_MO_prove
        rw [isv_yes hM.1 hj (by omega), if_neg (by decide), if_neg (Int32.not_le.mpr hv)]
    · obtain ⟨key, hkey, rfl⟩ := valid_of hv
      obtain ⟨p1, p2, p3⟩ := hC.1.tri hk3 hj
      have hsg := (hC.1.2.2.2.1 j (by omega)).2.1
      have hl := (words_eq p3.1.2.2 key).2
      obtain ⟨N, e1, w1, w2, w3, w4⟩ := wproof_eq (w := b 2) p3 hkey (fun i hi => hD.2.2.2.2.2.2.2.1 2 _ (9 + i) (by omega) hsg (by omega)) hC.1.1.2.2.2.2.2
      have n12 : b 2 ≠ b 1 := fun q => by have := hD.2.2.2.2.2.2.2.2 2 1 (by omega) (by omega) q; omega
      have e1' : f_NT_prove G x (nI j) (nI (num key)) M = some (nI (prW key (KL j)).length, si N (b 1) 1 (nI (prW key (KL j)).length)) := by
        unfold f_NT_prove
        rw [isk_yes hC.1.2.1 hj (by omega), if_neg (by decide), if_neg (fun z => hv ((valid_iff _).mp z)), p1, Option.bind_some, p2, hC.1.1.2.2.1, hC.1.1.2.2.2.1, e1, Option.bind_some]
        simp only [st]
        rw [gr_si, show gr N x 3 = b 1 from by show N.2.2 x 3 = _; rw [w2]; exact hC.1.1.2.2.1, gi_si, if_pos ⟨rfl, rfl⟩]
      obtain ⟨a1, z1⟩ := fo_NT_prove x (nI j) (nI (num key)) M c.1.1 c.1.2.1 hz e1'
      have hM1 : Mq G (si N (b 1) 1 (nI (prW key (KL j)).length)) mo um W KL n k KK PP pr := hM.agr c a1
      have hC1 : Cq G (si N (b 1) 1 (nI (prW key (KL j)).length)) x k b t uu sg W KL n (prW key (KL j)) := by
        refine ⟨hC.1.pf hD w2 (fun c hc => by rw [si_ne hc, w1]), by rw [gi_si, if_pos ⟨rfl, rfl⟩], fun i y hy => ?_, hC.2.2.2.1, hl⟩
        have hi := (List.getElem?_eq_some_iff.mp hy).1
        show N.2.1 (b 2) i = y
        rw [w4]
        have := wr_at (f := M.2.1 (b 2)) (s := 0) hi
        rw [Nat.zero_add] at this
        rw [this]
        exact (List.getElem?_eq_some_iff.mp hy).2
      have hm := hM1.2.2.2.1 (j + 1) (by omega) (by omega)
      obtain ⟨M2, e2, p2', ap⟩ := mprove_eq hkey (show n ≤ 3 by omega) hj hM1.1 hm
      obtain ⟨a2, z2⟩ := fo_MO_prove mo (nI j) (nI (num key)) _ c.1.2.2.1 c.1.2.2.2.1 z1 e2
      exact ⟨_, _, M2, e1', e2, z2, sg, W, KL, n, KK, PP, _, hC1.agr c a2 ap.1, hM1.ap ap p2'⟩
theorem ok_word (c : Ctx K G O x k b t uu mo um) (hz : ZI K G O Lf M) (hC : Cq G M x k b t uu sg W KL n pr) (hM : Mq G M mo um W KL n k KK PP pr) (a : Int32) : ∃ r, f_NT_word G x a M = some r ∧ f_MO_word G mo a M = some r := by
  have hl := hC.2.2.2.2
  have hR := hM.2.2.1.1
  obtain ⟨r0, r1, r2, r3, r4, r5, r6, r7, q0, q1, q2, q3, q4, q5, q6, q7, -⟩ := hR
  unfold f_NT_word f_MO_word f_PF_has
  rw [hC.1.1.2.2.1, hC.2.1, hM.2.2.2.2.1]
  by_cases c0 : a < 0
  · rw [if_pos c0, if_pos rfl, if_pos c0]
    exact ⟨0, rfl, rfl⟩
  · rcases which (n := pr.length) a (by omega) with h | ⟨j, hj, rfl⟩
    · have h := h.resolve_left c0
      rw [if_neg c0, if_pos h, if_pos rfl, if_neg c0, if_pos h]
      exact ⟨0, rfl, rfl⟩
    · have e1 : pr[j]? = some pr[j] := List.getElem?_eq_getElem hj
      have hng : ¬ nI pr.length ≤ nI j := nI_ge hj (by omega)
      rw [if_neg c0, if_neg hng, if_neg (by decide), if_neg c0, if_neg hng, hC.1.1.2.2.2.1, hC.1.1.2.2.2.2.2, ix_nI (show j < 199 by omega) (by decide), Option.bind_some, r7, q7, ix_nI (show j < 256 by omega) (by decide), Option.bind_some, hC.2.2.1 j _ e1, hM.2.2.2.2.2 j _ e1]
      exact ⟨_, rfl, rfl⟩
theorem ok_alter (c : Ctx K G O x k b t uu mo um) (hz : ZI K G O Lf M) (hC : Cq G M x k b t uu sg W KL n pr) (hM : Mq G M mo um W KL n k KK PP pr) (a : Int32) (v : Int64) : Both (QQ K G O Lf x k b t uu mo um) (f_NT_alter G x a v) (f_MO_alter G mo a v) M := by
  have hQ : QQ K G O Lf x k b t uu mo um M := ⟨hz, sg, W, KL, n, KK, PP, pr, hC, hM⟩
  have hD := c.2.2.1
  have hl := hC.2.2.2.2
  rcases which (n := pr.length) a (by omega) with h | ⟨j, hj, rfl⟩
  · refine ⟨0, M, M, ?_, ?_, hQ⟩
    · unfold f_NT_alter f_PF_has
      rw [hC.1.1.2.2.1, hC.2.1]
      by_cases c0 : a < 0
      · rw [if_pos c0, if_pos rfl]
      · rw [if_neg c0, if_pos (h.resolve_left c0), if_pos rfl]
    · unfold f_MO_alter
      rw [hM.2.2.2.2.1]
      by_cases c0 : a < 0
      · rw [if_pos c0]
      · rw [if_neg c0, if_neg (Int32.not_lt.mpr (h.resolve_left c0))]
  · have hj31 : ¬ nI j < (0 : Int32) := nI_pos (by omega)
    have e1' : f_NT_alter G x (nI j) v M = some (1, sl M (b 2) j v) := by
      unfold f_NT_alter f_PF_has
      rw [hC.1.1.2.2.1, hC.2.1, if_neg hj31, if_neg (nI_ge hj (by omega)), if_neg (by decide), hC.1.1.2.2.2.1, hC.1.1.2.2.2.2.2, ix_nI (show j < 199 by omega) (by decide), Option.bind_some]
      rfl
    obtain ⟨a1, z1⟩ := fo_NT_alter x (nI j) v M c.1.1 c.1.2.1 hz e1'
    have hM1 : Mq G (sl M (b 2) j v) mo um W KL n k KK PP pr := hM.agr c a1
    have setg : ∀ (f : Nat → Int64) (i : Nat) (y : Int64), (∀ (i : Nat) (y : Int64), pr[i]? = some y → f i = y) → (pr.set j v)[i]? = some y → (if i = j then v else f i) = y := fun f i y hf hy => by
      by_cases q : i = j
      · subst q
        rw [List.getElem?_set_self hj] at hy
        rw [if_pos rfl]
        exact Option.some.inj hy
      · rw [List.getElem?_set_ne (fun z => q z.symm)] at hy
        rw [if_neg q]
        exact hf i y hy
    have hC1 : Cq G (sl M (b 2) j v) x k b t uu sg W KL n (pr.set j v) := by
      refine ⟨hC.1.mv rfl rfl, by rw [List.length_set]; exact hC.2.1, fun i y hy => ?_, hC.2.2.2.1, by rw [List.length_set]; exact hl⟩
      rw [gl_sl, if_self]
      exact setg _ i y (fun i y hy => hC.2.2.1 i y hy) hy
    have hR := hM1.2.2.1.1
    have n7 := hR.ne7
    obtain ⟨r0, r1, r2, r3, r4, r5, r6, r7, q0, q1, q2, q3, q4, q5, q6, q7, -⟩ := hR
    have e2' : f_MO_alter G mo (nI j) v (sl M (b 2) j v) = some (1, sl (sl M (b 2) j v) (um 7) j v) := by
      unfold f_MO_alter
      rw [if_neg hj31, hM1.2.2.2.2.1, if_pos (nI_lt hj (by omega)), r7, q7, ix_nI (show j < 256 by omega) (by decide), Option.bind_some]
      rfl
    obtain ⟨a2, z2⟩ := fo_MO_alter mo (nI j) v _ c.1.2.2.1 c.1.2.2.2.1 z1 e2'
    refine ⟨_, _, _, e1', e2', z2, sg, W, KL, n, KK, PP, pr.set j v, hC1.agr c a2 rfl, hM1.ap (M2 := sl (sl M (b 2) j v) (um 7) j v) ⟨rfl, fun _ _ => rfl, fun _ _ => rfl, fun c _ _ h => sl_ne h⟩ ⟨by rw [List.length_set]; exact hM1.2.2.2.2.1, fun i y hy => ?_⟩⟩
    rw [gl_sl, if_self]
    exact setg _ i y (fun i y hy => hM1.2.2.2.2.2 i y hy) hy
theorem ok_cut (c : Ctx K G O x k b t uu mo um) (hz : ZI K G O Lf M) (hC : Cq G M x k b t uu sg W KL n pr) (hM : Mq G M mo um W KL n k KK PP pr) : (f_NT_cut G x M).1 = (f_MO_cut G mo (f_NT_cut G x M).2).1 ∧ QQ K G O Lf x k b t uu mo um (f_MO_cut G mo (f_NT_cut G x M).2).2 := by
  have hD := c.2.2.1
  have hl := hC.2.2.2.2
  obtain ⟨a1, z1⟩ := fo_NT_cut x M c.1.1 c.1.2.1 hz rfl
  have hM1 := hM.agr c a1
  have hdrop : ∀ (f : Nat → Int64) (i : Nat) (y : Int64), (∀ (i : Nat) (y : Int64), pr[i]? = some y → f i = y) → (pr.take (pr.length - 1))[i]? = some y → f i = y := fun f i y hf hy => by
    have hi := (List.getElem?_eq_some_iff.mp hy).1
    rw [List.length_take] at hi
    rw [List.getElem?_take_of_lt (by omega)] at hy
    exact hf i y hy
  have hlen : (pr.take (pr.length - 1)).length = pr.length - 1 := by rw [List.length_take]; omega
  by_cases q : pr.length = 0
  · have eN : f_NT_cut G x M = (nI 0, M) := by
      unfold f_NT_cut
      rw [hC.1.1.2.2.1, hC.2.1, q, if_pos (show nI 0 ≤ (0 : Int32) from Int32.le_refl _)]
    have hp11 := hM.2.2.2.2.1
    rw [q, nI_0] at hp11
    have eM : f_MO_cut G mo M = (0, si M mo 11 0) := by
      unfold f_MO_cut
      rw [hp11, if_pos rfl]
      simp only [st]
      rw [gi_si, if_pos ⟨rfl, rfl⟩]
    rw [eN]
    dsimp only
    obtain ⟨a2, z2⟩ := fo_MO_cut mo M c.1.2.2.1 c.1.2.2.2.1 hz eM
    rw [eM]
    refine ⟨nI_0, z2, sg, W, KL, n, KK, PP, pr, hC.agr c a2 rfl, hM.ap ⟨rfl, fun c hc => si_ne hc, fun j hj => ?_, fun _ _ _ _ => rfl⟩ ⟨?_, fun i y hy => ?_⟩⟩
    · show gi (si M mo 11 0) mo j = gi M mo j
      rw [gi_si, if_neg (fun z => by have := z.2; omega)]
    · rw [gi_si, if_pos ⟨rfl, rfl⟩, q, nI_0]
    · exact hM.2.2.2.2.2 i y hy
  · have es : nI pr.length - 1 = nI (pr.length - 1) := nI_sub' (b := 1) (by omega)
    have eN : f_NT_cut G x M = (nI (pr.length - 1), si M (b 1) 1 (nI (pr.length - 1))) := by
      unfold f_NT_cut
      rw [hC.1.1.2.2.1, hC.2.1, if_neg (nI_nle (by omega) (by omega)), es]
      simp only [st]
      rw [gr_si, hC.1.1.2.2.1, gi_si, if_pos ⟨rfl, rfl⟩]
    rw [eN] at a1 z1 hM1 ⊢
    dsimp only at a1 z1 hM1 ⊢
    have eM : f_MO_cut G mo (si M (b 1) 1 (nI (pr.length - 1))) = (nI (pr.length - 1), si (si M (b 1) 1 (nI (pr.length - 1))) mo 11 (nI (pr.length - 1))) := by
      unfold f_MO_cut
      rw [hM1.2.2.2.2.1, if_neg (nI_ne0 (by omega) (by omega)), es]
      simp only [st]
      rw [gi_si, if_pos ⟨rfl, rfl⟩]
    obtain ⟨a2, z2⟩ := fo_MO_cut mo _ c.1.2.2.1 c.1.2.2.2.1 z1 eM
    have hC1 : Cq G (si M (b 1) 1 (nI (pr.length - 1))) x k b t uu sg W KL n (pr.take (pr.length - 1)) := by
      refine ⟨hC.1.pf hD rfl (fun c hc => si_ne hc), by rw [gi_si, if_pos ⟨rfl, rfl⟩, hlen], fun i y hy => ?_, hC.2.2.2.1, by omega⟩
      exact hdrop (M.2.1 (b 2)) i y (fun i y hy => hC.2.2.1 i y hy) hy
    rw [eM]
    refine ⟨rfl, z2, sg, W, KL, n, KK, PP, pr.take (pr.length - 1), hC1.agr c a2 rfl, hM1.ap ⟨rfl, fun c hc => si_ne hc, fun j hj => ?_, fun _ _ _ _ => rfl⟩ ⟨?_, fun i y hy => ?_⟩⟩
    · show gi (si (si M (b 1) 1 (nI (pr.length - 1))) mo 11 (nI (pr.length - 1))) mo j = gi (si M (b 1) 1 (nI (pr.length - 1))) mo j
      rw [gi_si, if_neg (fun z => by have := z.2; omega)]
    · rw [gi_si, if_pos ⟨rfl, rfl⟩, hlen]
    · exact hdrop _ i y (fun i y hy => hM1.2.2.2.2.2 i y hy) hy
theorem ok_verify (c : Ctx K G O x k b t uu mo um) (hz : ZI K G O Lf M) (hC : Cq G M x k b t uu sg W KL n pr) (hM : Mq G M mo um W KL n k KK PP pr) (w : Int64) (a v : Int32) : Both (QQ K G O Lf x k b t uu mo um) (f_NT_verify G x w a v) (f_MO_verify G mo w a v) M := by
  have hQ : QQ K G O Lf x k b t uu mo um M := ⟨hz, sg, W, KL, n, KK, PP, pr, hC, hM⟩
  have hD := c.2.2.1
  have hl := hC.2.2.2.2
  by_cases ha : f_MO_nibbles a < 0
  · refine ⟨0, M, M, ?_, ?_, hQ⟩
    · unfold f_NT_verify
      rw [if_pos ((valid_iff a).mpr ha)]
    · unfold f_MO_verify
      rw [if_pos ha]
  · obtain ⟨p, hp, rfl⟩ := valid_of ha
    have n12 : b 2 ≠ b 1 := fun q => by have := hD.2.2.2.2.2.2.2.2 2 1 (by omega) (by omega) q; omega
    obtain ⟨r, hr, rC, rM⟩ := verify_both (G := G) (B := b 1) (w := b 2) (mo := mo) (um := um) (v := v) hp w hl
    obtain ⟨M1, e1, v1⟩ := rC M ⟨hC.1.1.2.2.2.1, hC.1.1.2.2.2.2.2, hl, hC.2.1, hC.2.2.1, n12⟩
    have e1' : f_NT_verify G x w (nI (num p)) v M = some (r, M1) := by
      unfold f_NT_verify
      rw [if_neg (fun z => ha ((valid_iff _).mp z)), hC.1.1.2.2.1, e1, Option.bind_some]
      dsimp only
      rcases hr with rfl | rfl
      · rw [if_pos rfl]
      · rw [if_neg (by decide)]
    obtain ⟨a1, z1⟩ := fo_NT_verify x w (nI (num p)) v M c.1.1 c.1.2.1 hz e1'
    have hM1 : Mq G M1 mo um W KL n k KK PP pr := hM.agr c a1
    have hC1 : Cq G M1 x k b t uu sg W KL n pr := by
      refine ⟨hC.1.pf hD v1.1 v1.2.1, ?_, fun i y hy => ?_, hC.2.2.2.1, hl⟩
      · show M1.1 (b 1) 1 = _
        rw [v1.2.2.1]; exact hC.2.1
      · show M1.2.1 (b 2) i = y
        rw [v1.2.2.2 _ n12]; exact hC.2.2.1 i y hy
    obtain ⟨M2, e2, v2⟩ := rM M1 ⟨hM1.2.2.1.1, hM1.2.2.2.2, hl⟩
    obtain ⟨a2, z2⟩ := fo_MO_verify mo w (nI (num p)) v M1 c.1.2.2.1 c.1.2.2.2.1 z1 e2
    exact ⟨r, M1, M2, e1', e2, z2, sg, W, KL, n, KK, PP, pr, hC1.agr c a2 v2.1, hM1.ap v2.ap (hM1.2.2.2.2.of (v2.2.2.1 11 (by decide) (by decide) (by decide)) (v2.2.2.2 _ hM1.2.2.1.1.ne7))⟩
end R2
theorem step_all {K G O : Nat → Nat} {Lf : List Nat} {x k : Nat} {b t : Nat → Nat} {uu : Nat → Nat → Nat} {mo : Nat} {um : Nat → Nat} (c : Ctx K G O x k b t uu mo um) (M : Mm) (h : QQ K G O Lf x k b t uu mo um M) : StepOK G x mo (QQ K G O Lf x k b t uu mo um) M := by
  have hQ := h
  obtain ⟨hz, sg, W, KL, n, KK, PP, pr, hC, hM⟩ := h
  exact ⟨fun a v => ok_put c hz hC hM a v, fun a => ok_get c hz hC hM a, ok_size c hz hC hM, ok_root c hz hC hM, fun a => ok_count c hz hC hM a, fun a => ok_commit c hz hC hM a, ok_crash c hz hC hM, ok_versions c hz hC hM, fun a v => ok_at c hz hC hM a v, fun a => ok_rootAt c hz hC hM a, ok_stored c hz hC hM, fun d => ok_uses c hz hC hM d, fun a v => ok_prove c hz hC hM a v, fun a => ok_word c hz hC hM a, fun a w => ok_alter c hz hC hM a w, ok_cut c hz hC hM, fun w a v => ok_verify c hz hC hM w a v, hQ⟩
