/-! The class's state: working trie and kept tries. -/
/-- all cells of the class are apart -/
def Dst (x k : Nat) (b t : Nat → Nat) (uu : Nat → Nat → Nat) : Prop := (∀ j i, j ≤ k → i ≤ k → t j = t i → j = i) ∧ (∀ j i p q, j ≤ k → i ≤ k → p < 13 → q < 13 → uu j p = uu i q → j = i ∧ p = q) ∧ (∀ j i p, j ≤ k → i ≤ k → p < 13 → t j ≠ uu i p) ∧ (∀ j, j ≤ k → x ≠ t j) ∧ (∀ j p, j ≤ k → p < 13 → x ≠ uu j p) ∧ (∀ i, i < 3 → x ≠ b i) ∧ (∀ i j, i < 3 → j ≤ k → b i ≠ t j) ∧ (∀ i j p, i < 3 → j ≤ k → p < 13 → b i ≠ uu j p) ∧ (∀ i j, i < 3 → j < 3 → b i = b j → i = j)
def CSt (G : Nat → Nat) (M : Mm) (x k : Nat) (b t : Nat → Nat) (uu : Nat → Nat → Nat) : Prop := gr M x 0 = t 0 ∧ gr M x 1 = b 0 ∧ gr M x 3 = b 1 ∧ gr M (b 1) 0 = b 2 ∧ G (b 0) = k ∧ G (b 2) = 199
def CS (G : Nat → Nat) (M : Mm) (x k : Nat) (b t : Nat → Nat) (uu : Nat → Nat → Nat) (sg : Nat → Nat) (W : List Ent) (KL : Nat → List Ent) (n : Nat) : Prop := CSt G M x k b t uu ∧ gi M x 2 = nI n ∧ n ≤ k ∧ (∀ i, i < k → 1 ≤ sg i ∧ sg i ≤ k ∧ gr M (b 0) i = t (sg i)) ∧ (∀ i j, i < k → j < k → sg i = sg j → i = j) ∧ TrI G M (t 0) (uu 0) W ∧ ∀ i, i < k → TrI G M (t (sg i)) (uu (sg i)) (KL i)
section ST
variable {G : Nat → Nat} {M : Mm} {x k : Nat} {b t : Nat → Nat} {uu : Nat → Nat → Nat} {sg : Nat → Nat} {W : List Ent} {KL : Nat → List Ent} {n : Nat}
theorem Dst.apt (h : Dst x k b t uu) {i j : Nat} (hi : i ≤ k) (hj : j ≤ k) (hn : i ≠ j) : Apt (t i) (t j) (uu i) (uu j) := ⟨fun e => hn (h.1 i j hi hj e), fun p hp => h.2.2.1 i j p hi hj hp, fun p hp => h.2.2.1 j i p hj hi hp, fun p q hp hq e => hn (h.2.1 i j p q hi hj hp hq e).1⟩
theorem Dst.nx (h : Dst x k b t uu) {i : Nat} (hi : i ≤ k) : x ∉ tcs (t i) (uu i) := by
  intro q
  simp only [tcs, List.mem_cons, List.not_mem_nil, or_false] at q
  rcases q with q | q | q | q | q | q | q | q
  · exact h.2.2.2.1 i hi q
  all_goals exact h.2.2.2.2.1 i _ hi (by omega) q
theorem Dst.nbt (h : Dst x k b t uu) {i j : Nat} (hi : i < 3) (hj : j ≤ k) : b i ∉ tcs (t j) (uu j) := by
  intro q
  have n1 := h.2.2.2.2.2.2.1 i j hi hj
  have n2 := fun p hp => h.2.2.2.2.2.2.2.1 i j p hi hj hp
  unfold tcs at q
  rcases List.mem_cons.mp q with q | q
  · exact n1 q
  rcases List.mem_cons.mp q with q | q
  · exact n2 0 (by omega) q
  rcases List.mem_cons.mp q with q | q
  · exact n2 1 (by omega) q
  rcases List.mem_cons.mp q with q | q
  · exact n2 2 (by omega) q
  rcases List.mem_cons.mp q with q | q
  · exact n2 3 (by omega) q
  rcases List.mem_cons.mp q with q | q
  · exact n2 4 (by omega) q
  rcases List.mem_cons.mp q with q | q
  · exact n2 5 (by omega) q
  rcases List.mem_cons.mp q with q | q
  · exact n2 6 (by omega) q
  · cases q
theorem goDown_eq (hD : Dst x k b t uu) (hk : 1 ≤ k) (hk3 : k ≤ 3) (h : CS G M x k b t uu sg W KL n) : ∃ M2, f_NT_goDown G x M = some M2 ∧ CS G M2 x k b t uu sg (KL 0) KL n ∧ Only M M2 (tcs (t 0) (uu 0)) := by
  obtain ⟨hs, hn, hnk, hg, hi, hw, hkl⟩ := h
  have g0 := hg 0 (by omega)
  have a0 := hD.apt (i := 0) (j := sg 0) (by omega) g0.2.1 (by omega)
  obtain ⟨M2, e, o, ti⟩ := like_eq hw (hkl 0 (by omega)) a0
  have hr : M2.2.2 = M.2.2 := by rw [o.1]
  refine ⟨M2, ?_, ⟨?_, ?_, hnk, ?_, hi, ti, fun i hik => ?_⟩, o⟩
  · unfold f_NT_goDown
    rw [hs.2.1, hs.2.2.2.2.1, ix0k hk hk3, Option.bind_some, hs.1, g0.2.2, e]
    rfl
  · unfold CSt gr at *
    rw [hr]
    exact hs
  · show M2.1 x 2 = _
    rw [o.2 _ (hD.nx (by omega))]
    exact hn
  · intro i hik
    have := hg i hik
    refine ⟨this.1, this.2.1, ?_⟩
    show M2.2.2 (b 0) i = _
    rw [hr]
    exact this.2.2
  · have := hg i hik
    exact (hkl i hik).only hw.1.1 (hD.apt (by omega) this.2.1 (by omega)) o
/-- the ring of kept tries turns -/
theorem kwk_step {z i f : Nat} (hs : CSt G M x k b t uu) (hk3 : k ≤ 3) (hi : i + 1 < k) : f_NT_keepWorking_17 G (f + 1) x z (nI (i + 1)) M = f_NT_keepWorking_17 G f x z (nI i) (sr M (b 0) (i + 1) (gr M (b 0) i)) := by
  have hg : ¬ nI (i + 1) ≤ (0 : Int32) := nI_nle (by omega) (by omega)
  rw [f_NT_keepWorking_17, if_neg hg, nI_pred, hs.2.1, hs.2.2.2.2.1, ix_nI (show i < k by omega) (by omega), Option.bind_some, ix_nI hi (by omega), Option.bind_some]
  simp only [st]
  rw [pk_m1]
theorem CSt.isr (hD : Dst x k b t uu) (hs : CSt G M x k b t uu) {i y : Nat} : CSt G (sr M (b 0) i y) x k b t uu := by
  obtain ⟨a1, a2, a3, a4, a5, a6⟩ := hs
  have nx : x ≠ b 0 := hD.2.2.2.2.2.1 0 (by omega)
  have nb : b 1 ≠ b 0 := fun e => by have := hD.2.2.2.2.2.2.2.2 1 0 (by omega) (by omega) e; omega
  refine ⟨?_, ?_, ?_, ?_, a5, a6⟩
  · rw [gr_sr, if_neg (fun q => nx q.1)]; exact a1
  · rw [gr_sr, if_neg (fun q => nx q.1)]; exact a2
  · rw [gr_sr, if_neg (fun q => nx q.1)]; exact a3
  · rw [gr_sr, if_neg (fun q => nb q.1)]; exact a4
theorem TrI.isr {y i c : Nat} {L : List Ent} {z : Nat} {u : Nat → Nat} (h : TrI G M z u L) (hz : c ≠ z) (hu : ∀ j, j < 13 → c ≠ u j) : TrI G (sr M c i y) z u L := by
  have e : ∀ a j, a ≠ c → gr (sr M c i y) a j = gr M a j := fun a j ha => by rw [gr_sr, if_neg (fun q => ha q.1)]
  obtain ⟨⟨⟨⟨r0, r1, r2, r3, r4, r5, r6, r7, r8, r9⟩, s2⟩, ⟨m1, m2, m3, m4, m5⟩, s5⟩, l⟩ := h
  have ez : ∀ j, gr (sr M c i y) z j = gr M z j := fun j => e z j (fun q => hz q.symm)
  have eu : ∀ a j, a < 13 → gr (sr M c i y) (u a) j = gr M (u a) j := fun a j ha => e _ j (fun q => hu a ha q.symm)
  refine ⟨⟨⟨⟨by rw [ez]; exact r0, by rw [eu _ _ (by omega)]; exact r1, by rw [eu _ _ (by omega)]; exact r2, by rw [ez]; exact r3, by rw [ez]; exact r4, by rw [ez]; exact r5, by rw [ez]; exact r6, by rw [ez]; exact r7, by rw [ez]; exact r8, fun j hj => by rw [eu _ _ (by omega)]; exact r9 j hj⟩, s2⟩, ⟨m1, by rw [eu _ _ (by omega)]; exact m2, by rw [eu _ _ (by omega)]; exact m3, m4, ?_⟩, s5⟩, l⟩
  rw [eu _ _ (by omega), eu _ _ (by omega)]
  exact m5
theorem kwk_stop {z f y : Nat} {M2 : Mm} (hk : 1 ≤ k) (hk3 : k ≤ 3) (hs : CSt G M x k b t uu) (hD : Dst x k b t uu) (e : f_TR_becomeLike G z (t 0) (sr M (b 0) 0 z) = some M2) (hr : M2.2.2 = (sr M (b 0) 0 z).2.2) (hn : gi M2 x 2 = nI y) (hy : y < 2 ^ 30) : f_NT_keepWorking_17 G (f + 1) x z (nI 0) M = some (si M2 x 2 (nI (min (y + 1) k))) := by
  have h0 : nI 0 ≤ (0 : Int32) := by rw [nI_0]; exact Int32.le_refl 0
  have hs1 := CSt.isr (i := 0) (y := z) hD hs
  have hs2 : gr M2 x 1 = b 0 := by show M2.2.2 x 1 = _; rw [hr]; exact hs1.2.1
  rw [f_NT_keepWorking_17, if_pos h0, hs.2.1, hs.2.2.2.2.1, ix0k hk hk3, Option.bind_some]
  simp only [st]
  rw [hs1.1, e, Option.bind_some, hn, hs2, hs.2.2.2.2.1, nI_1, show Int32.ofNat k = nI k from rfl, imin_nI (by omega) (by omega)]
def rot (k : Nat) (f : Nat → Nat) (i : Nat) : Nat := if i = 0 then f (k - 1) else f (i - 1)
def rotL (W : List Ent) (KL : Nat → List Ent) (i : Nat) : List Ent := if i = 0 then W else KL (i - 1)
theorem kwk_end {f : Nat} (hD : Dst x k b t uu) (hk : 1 ≤ k) (hk3 : k ≤ 3) (hnk : n ≤ k) (hg : ∀ i, i < k → 1 ≤ sg i ∧ sg i ≤ k) (hi : ∀ i j, i < k → j < k → sg i = sg j → i = j) (hs : CSt G M x k b t uu) (hn : gi M x 2 = nI n) (ha : ∀ j, j < k → gr M (b 0) j = t (if 0 < j then sg (j - 1) else sg j)) (hw : TrI G M (t 0) (uu 0) W) (hkl : ∀ j, j < k → TrI G M (t (sg j)) (uu (sg j)) (KL j)) : ∃ M2, f_NT_keepWorking_17 G (f + 1) x (t (sg (k - 1))) (nI 0) M = some M2 ∧ CS G M2 x k b t uu (rot k sg) W (rotL W KL) (min (n + 1) k) ∧ M2.1 (b 1) = M.1 (b 1) ∧ M2.2.1 = M.2.1 := by
  have nB : ∀ j, j ≤ k → b 0 ≠ t j := fun j hj => hD.2.2.2.2.2.2.1 0 j (by omega) hj
  have nU : ∀ j p, j ≤ k → p < 13 → b 0 ≠ uu j p := fun j p hj hp => hD.2.2.2.2.2.2.2.1 0 j p (by omega) hj hp
  have gk := hg (k - 1) (by omega)
  have hs1 := CSt.isr (i := 0) (y := t (sg (k - 1))) hD hs
  have hw1 : TrI G (sr M (b 0) 0 (t (sg (k - 1)))) (t 0) (uu 0) W := hw.isr (nB 0 (by omega)) (fun j hj => nU 0 j (by omega) hj)
  have hk1 : ∀ j, j < k → TrI G (sr M (b 0) 0 (t (sg (k - 1)))) (t (sg j)) (uu (sg j)) (KL j) := fun j hj => (hkl j hj).isr (nB _ (hg j hj).2) (fun p hp => nU _ p (hg j hj).2 hp)
  obtain ⟨M2, e, o, ti⟩ := like_eq (hk1 (k - 1) (by omega)) hw1 (hD.apt gk.2 (by omega) (by omega))
  have hr : M2.2.2 = (sr M (b 0) 0 (t (sg (k - 1)))).2.2 := by rw [o.1]
  have hn2 : gi M2 x 2 = nI n := by
    show M2.1 x 2 = _
    rw [o.2 _ (hD.nx gk.2)]
    exact hn
  have off : ∀ (j : Nat) (L : List Ent), j ≤ k → TrI G M2 (t j) (uu j) L → TrI G (si M2 x 2 (nI (min (n + 1) k))) (t j) (uu j) L := fun j L hj h => h.off rfl (si_ne (fun q => hD.2.2.2.1 j hj q.symm)) (fun p hp => si_ne (fun q => hD.2.2.2.2.1 j p hj hp q.symm))
  refine ⟨_, kwk_stop hk hk3 hs hD e hr hn2 (by omega), ⟨?_, by rw [gi_si, if_pos ⟨rfl, rfl⟩], by omega, ?_, ?_, ?_, ?_⟩, by rw [si_ne (fun q => hD.2.2.2.2.2.1 1 (by omega) q.symm), o.2 _ (hD.nbt (by omega) gk.2)]; rfl, by show M2.2.1 = M.2.1; rw [o.1]; rfl⟩
  · unfold CSt gr at *
    show M2.2.2 x 0 = _ ∧ M2.2.2 x 1 = _ ∧ M2.2.2 x 3 = _ ∧ M2.2.2 (b 1) 0 = _ ∧ _
    rw [hr]
    exact hs1
  · intro i hik
    unfold rot
    by_cases c : i = 0
    · rw [if_pos c]
      refine ⟨gk.1, gk.2, ?_⟩
      show M2.2.2 (b 0) i = _
      rw [hr]
      show gr (sr M (b 0) 0 (t (sg (k - 1)))) (b 0) i = _
      rw [gr_sr, if_pos ⟨rfl, c⟩]
    · rw [if_neg c]
      have := hg (i - 1) (by omega)
      refine ⟨this.1, this.2, ?_⟩
      show M2.2.2 (b 0) i = _
      rw [hr]
      show gr (sr M (b 0) 0 (t (sg (k - 1)))) (b 0) i = _
      rw [gr_sr, if_neg (fun q => c q.2), ha i hik, if_pos (by omega)]
  · intro i j hik hjk
    unfold rot
    by_cases c : i = 0
    · by_cases d : j = 0
      · intro _; omega
      · rw [if_pos c, if_neg d]
        intro q
        have := hi (k - 1) (j - 1) (by omega) (by omega) q
        omega
    · by_cases d : j = 0
      · rw [if_neg c, if_pos d]
        intro q
        have := hi (i - 1) (k - 1) (by omega) (by omega) q
        omega
      · rw [if_neg c, if_neg d]
        intro q
        have := hi (i - 1) (j - 1) (by omega) (by omega) q
        omega
  · exact off 0 _ (by omega) (hw1.only (hk1 (k - 1) (by omega)).1.1 (hD.apt gk.2 (by omega) (by omega)) o)
  · intro i hik
    unfold rot rotL
    by_cases c : i = 0
    · rw [if_pos c, if_pos c]
      exact off _ _ gk.2 ti
    · rw [if_neg c, if_neg c]
      have g := hg (i - 1) (by omega)
      refine off _ _ g.2 ((hk1 (i - 1) (by omega)).only (hk1 (k - 1) (by omega)).1.1 (hD.apt gk.2 g.2 (fun q => ?_)) o)
      have := hi (k - 1) (i - 1) (by omega) (by omega) q
      omega
theorem kwk_loop (hD : Dst x k b t uu) (hk : 1 ≤ k) (hk3 : k ≤ 3) (hnk : n ≤ k) (hg : ∀ i, i < k → 1 ≤ sg i ∧ sg i ≤ k) (hi : ∀ i j, i < k → j < k → sg i = sg j → i = j) : ∀ (i f : Nat) (M : Mm), i < k → CSt G M x k b t uu → gi M x 2 = nI n → (∀ j, j < k → gr M (b 0) j = t (if i < j then sg (j - 1) else sg j)) → TrI G M (t 0) (uu 0) W → (∀ j, j < k → TrI G M (t (sg j)) (uu (sg j)) (KL j)) → ∃ M2, f_NT_keepWorking_17 G (i + f + 1) x (t (sg (k - 1))) (nI i) M = some M2 ∧ CS G M2 x k b t uu (rot k sg) W (rotL W KL) (min (n + 1) k) ∧ M2.1 (b 1) = M.1 (b 1) ∧ M2.2.1 = M.2.1 := by
  have nB : ∀ j, j ≤ k → b 0 ≠ t j := fun j hj => hD.2.2.2.2.2.2.1 0 j (by omega) hj
  have nU : ∀ j p, j ≤ k → p < 13 → b 0 ≠ uu j p := fun j p hj hp => hD.2.2.2.2.2.2.2.1 0 j p (by omega) hj hp
  intro i
  induction i with
  | zero =>
    intro f M _ hs hn ha hw hkl
    rw [Nat.zero_add]
    exact kwk_end hD hk hk3 hnk hg hi hs hn ha hw hkl
  | succ i ih =>
    intro f M hik hs hn ha hw hkl
    rw [show i + 1 + f + 1 = (i + f + 1) + 1 by omega, kwk_step hs hk3 hik]
    refine ih f _ (by omega) (CSt.isr hD hs) hn (fun j hj => ?_) (hw.isr (nB 0 (by omega)) (fun p hp => nU 0 p (by omega) hp)) (fun j hj => (hkl j hj).isr (nB _ (hg j hj).2) (fun p hp => nU _ p (hg j hj).2 hp))
    rw [gr_sr]
    by_cases c : j = i + 1
    · rw [if_pos ⟨rfl, c⟩, ha i (by omega), if_neg (by omega), if_pos (by omega), c]
      rfl
    · rw [if_neg (fun q => c q.2), ha j hj]
      by_cases d : i + 1 < j
      · rw [if_pos d, if_pos (by omega)]
      · rw [if_neg d, if_neg (by omega)]
theorem keep_eq (hD : Dst x k b t uu) (hk : 1 ≤ k) (hk3 : k ≤ 3) (h : CS G M x k b t uu sg W KL n) : ∃ M2, f_NT_keepWorking G x M = some M2 ∧ CS G M2 x k b t uu (rot k sg) W (rotL W KL) (min (n + 1) k) ∧ M2.1 (b 1) = M.1 (b 1) ∧ M2.2.1 = M.2.1 := by
  obtain ⟨hs, hn, hnk, hg, hi, hw, hkl⟩ := h
  obtain ⟨M2, e, q, f1, f2⟩ := kwk_loop (G := G) (W := W) (KL := KL) hD hk hk3 hnk (fun i hi => ⟨(hg i hi).1, (hg i hi).2.1⟩) hi (k - 1) (4095 - (k - 1)) M (by omega) hs hn (fun j hj => by rw [if_neg (by omega)]; exact (hg j hj).2.2) hw hkl
  refine ⟨M2, ?_, q, f1, f2⟩
  unfold f_NT_keepWorking
  simp only [st]
  rw [hs.2.1, hs.2.2.2.2.1, show Int32.ofNat k - 1 = nI (k - 1) from nI_sub' (b := 1) hk, ix_nI (show k - 1 < k by omega) (by omega), Option.bind_some, (hg (k - 1) (by omega)).2.2]
  rw [show k - 1 + (4095 - (k - 1)) + 1 = FU by unfold FU; omega] at e
  exact e
end ST
