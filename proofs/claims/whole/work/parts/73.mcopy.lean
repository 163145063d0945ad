/-! The reference's copies of maps. -/
def Rcp {α : Type} (p q i : Nat) (f g : Nat → α) : Prop := ∀ j, g j = if 16 * q ≤ j ∧ j < 16 * q + i then f (16 * p + (j - 16 * q)) else f j
theorem Rcp.zero {α : Type} {p q : Nat} {f : Nat → α} : Rcp p q 0 f f := fun j => by rw [if_neg (by omega)]
theorem Rcp.step {α : Type} {p q i : Nat} {f g h : Nat → α} (hpq : p ≠ q) (hi : i < 16) (r : Rcp p q i f g) (e : ∀ j, h j = if j = 16 * q + i then g (16 * p + i) else g j) : Rcp p q (i + 1) f h := fun j => by
  rw [e]
  by_cases c : j = 16 * q + i
  · rw [if_pos c, r, if_neg (by omega), if_pos (by omega), show j - 16 * q = i by omega]
  · rw [if_neg c, r]
    by_cases d : 16 * q ≤ j ∧ j < 16 * q + i
    · rw [if_pos d, if_pos (by omega)]
    · rw [if_neg d, if_neg (by omega)]
theorem Rcp.inn {α : Type} {p q i : Nat} {f g : Nat → α} (r : Rcp p q 16 f g) (hi : i < 16) : g (16 * q + i) = f (16 * p + i) := by
  rw [r, if_pos (by omega), show 16 * q + i - 16 * q = i by omega]
theorem Rcp.out {α : Type} {p q m i : Nat} {f g : Nat → α} (r : Rcp p q 16 f g) (hm : m ≠ q) (hi : i < 16) : g (16 * m + i) = f (16 * m + i) := by
  rw [r, if_neg (by omega)]
theorem if_self {α : Type} {a j k : Nat} {x y : α} : (if a = a ∧ j = k then x else y) = if j = k then x else y := by
  by_cases c : j = k
  · rw [if_pos ⟨rfl, c⟩, if_pos c]
  · rw [if_neg (fun q => c q.2), if_neg c]
def Cpd (um : Nat → Nat) (p q i : Nat) (M M2 : Mm) : Prop := M2.2.2 = M.2.2 ∧ (∀ c, c ≠ um 0 → c ≠ um 1 → c ≠ um 3 → M2.1 c = M.1 c) ∧ (∀ c, c ≠ um 4 → M2.2.1 c = M.2.1 c) ∧ Rcp p q i (M.1 (um 0)) (M2.1 (um 0)) ∧ Rcp p q i (M.1 (um 1)) (M2.1 (um 1)) ∧ Rcp p q i (M.1 (um 3)) (M2.1 (um 3)) ∧ Rcp p q i (M.2.1 (um 4)) (M2.2.1 (um 4))
/-- what the calls of the reference keep, whatever they do to the maps -/
def Wk (mo : Nat) (um : Nat → Nat) (M M2 : Mm) : Prop := M2.2.2 = M.2.2 ∧ (∀ j, j ≠ 9 → M2.1 mo j = M.1 mo j) ∧ M2.2.1 (um 7) = M.2.1 (um 7)
theorem Wk.rf {mo : Nat} {um : Nat → Nat} {M : Mm} : Wk mo um M M := ⟨rfl, fun _ _ => rfl, rfl⟩
theorem Wk.tr {mo : Nat} {um : Nat → Nat} {M M1 M2 : Mm} (h : Wk mo um M M1) (g : Wk mo um M1 M2) : Wk mo um M M2 := ⟨g.1.trans h.1, fun j hj => (g.2.1 j hj).trans (h.2.1 j hj), g.2.2.trans h.2.2⟩
/-- a map of the reference with its places -/
def Mb (G : Nat → Nat) (M : Mm) (mo : Nat) (um : Nat → Nat) (m : Nat) (K L : List Ent) (ps : List (List Nat)) : Prop := MpS G M mo um m K L ∧ PlS M um m ps ∧ PlD M um m L ps ∧ ps.Nodup ∧ Cpl L ps
section MY
variable {G : Nat → Nat} {M N M2 : Mm} {mo m p q i : Nat} {um : Nat → Nat} {K L : List Ent} {ps : List (List Nat)}
theorem Cpd.step (hR : ModelR G N mo um) (hpq : p ≠ q) (hi : i < 16) (h : Cpd um p q i M N) : Cpd um p q (i + 1) M (sl (si (si (si N (um 0) (16 * q + i) (gi N (um 0) (16 * p + i))) (um 1) (16 * q + i) (gi N (um 1) (16 * p + i))) (um 3) (16 * q + i) (gi N (um 3) (16 * p + i))) (um 4) (16 * q + i) (gl N (um 4) (16 * p + i))) := by
  have n3 := hR.ne3
  have n2 := hR.ne2
  refine ⟨h.1, fun c a b d => ?_, fun c a => ?_, h.2.2.2.1.step hpq hi ?_, h.2.2.2.2.1.step hpq hi ?_, h.2.2.2.2.2.1.step hpq hi ?_, h.2.2.2.2.2.2.step hpq hi ?_⟩
  · show (si (si (si N (um 0) _ _) (um 1) _ _) (um 3) _ _).1 c = M.1 c
    rw [si_ne d, si_ne b, si_ne a]
    exact h.2.1 c a b d
  · rw [sl_ne a]
    exact h.2.2.1 c a
  · intro j
    show gi (si (si (si N (um 0) _ _) (um 1) _ _) (um 3) _ _) (um 0) j = _
    rw [gi_si, if_neg (fun q => n2.1 q.1), gi_si, if_neg (fun q => n3.1 q.1), gi_si, if_self]
    rfl
  · intro j
    show gi (si (si (si N (um 0) _ _) (um 1) _ _) (um 3) _ _) (um 1) j = _
    have inner : ∀ (y : Nat) (z : Int32), gi (si N (um 0) y z) (um 1) j = gi N (um 1) j := fun y z => by rw [gi_si, if_neg (fun q => n3.1 q.1.symm)]
    rw [gi_si, if_neg (fun q => n2.2.2.1 q.1), gi_si, if_self, inner]
    rfl
  · intro j
    show gi (si (si (si N (um 0) _ _) (um 1) _ _) (um 3) _ _) (um 3) j = _
    have inner : ∀ (y y' : Nat) (z z' : Int32), gi (si (si N (um 0) y z) (um 1) y' z') (um 3) j = gi N (um 3) j := fun y y' z z' => by rw [gi_si, if_neg (fun q => n2.2.2.1 q.1.symm), gi_si, if_neg (fun q => n2.1 q.1.symm)]
    rw [gi_si, if_self, inner]
    rfl
  · intro j
    show gl (sl (si (si (si N (um 0) _ _) (um 1) _ _) (um 3) _ _) (um 4) _ _) (um 4) j = _
    rw [gl_sl, if_self]
    rfl
theorem cp26_loop (hp : p < 4) (hq : q < 4) (hpq : p ≠ q) : ∀ (n i f : Nat) (N : Mm), i + n = 16 → ModelR G N mo um → Cpd um p q i M N → ∃ M2, f_MO_copy_26 G (n + f + 1) mo (nI p) (nI q) (nI i) N = some M2 ∧ Cpd um p q 16 M M2 := by
  intro n
  induction n with
  | zero =>
    intro i f N hi hR h
    have hi : i = 16 := by omega
    subst hi
    have h16 : (16 : Int32) ≤ nI 16 := Int32.le_refl _
    exact ⟨N, by rw [f_MO_copy_26, if_pos h16], h⟩
  | succ n ih =>
    intro i f N hi hR h
    have h16 : ¬ (16 : Int32) ≤ nI i := nI_ge (show i < 16 by omega) (by decide)
    have n3 := hR.ne3
    have n2 := hR.ne2
    have ip : ix (nI (16 * p + i)) 64 = some (16 * p + i) := ix_nI (by omega) (by decide)
    have iq : ix (nI (16 * q + i)) 64 = some (16 * q + i) := ix_nI (by omega) (by decide)
    have a1 : ∀ (x : Int32) (y j : Nat), gi (si N (um 0) y x) (um 1) j = gi N (um 1) j := fun x y j => by rw [gi_si, if_neg (fun q => n3.1 q.1.symm)]
    have a3 : ∀ (x z : Int32) (y w j : Nat), gi (si (si N (um 0) y x) (um 1) w z) (um 3) j = gi N (um 3) j := fun x z y w j => by rw [gi_si, if_neg (fun q => n2.2.2.1 q.1.symm), gi_si, if_neg (fun q => n2.1 q.1.symm)]
    have r := hR
    obtain ⟨r0, r1, r2, r3, r4, r5, r6, r7, g0, g1, g2, g3, g4, g5, g6, g7, -⟩ := r
    have key : ∀ X : Mm, Cpd um p q (i + 1) M X → X.2.2 = N.2.2 → ∃ M2, f_MO_copy_26 G (n + f + 1) mo (nI p) (nI q) (nI (i + 1)) X = some M2 ∧ Cpd um p q 16 M M2 := fun X hX hr => ih (i + 1) f X (by omega) (hR.ref hr) hX
    obtain ⟨M2, e, c⟩ := key _ (h.step hR hpq (by omega)) rfl
    refine ⟨M2, ?_, c⟩
    rw [show n + 1 + f + 1 = (n + f + 1) + 1 by omega, f_MO_copy_26, if_neg h16]
    simp only [st, m16, r0, g0, ip, iq, Option.bind_some, gr_si, r1, g1, a1, r3, g3, a3, r4, g4, gl_si, nI_1]
    exact e
def Cpm (um : Nat → Nat) (p q : Nat) (M M2 : Mm) : Prop := M2.2.2 = M.2.2 ∧ (∀ c, c ≠ um 0 → c ≠ um 1 → c ≠ um 2 → c ≠ um 3 → c ≠ um 5 → M2.1 c = M.1 c) ∧ (∀ c, c ≠ um 4 → M2.2.1 c = M.2.1 c) ∧ (∀ j, M2.1 (um 2) j = if j = q then M.1 (um 2) p else M.1 (um 2) j) ∧ (∀ j, M2.1 (um 5) j = if j = q then M.1 (um 5) p else M.1 (um 5) j) ∧ Rcp p q 16 (M.1 (um 0)) (M2.1 (um 0)) ∧ Rcp p q 16 (M.1 (um 1)) (M2.1 (um 1)) ∧ Rcp p q 16 (M.1 (um 3)) (M2.1 (um 3)) ∧ Rcp p q 16 (M.2.1 (um 4)) (M2.2.1 (um 4))
theorem copy_eq (hR : ModelR G M mo um) (hp : p < 4) (hq : q < 4) (hpq : p ≠ q) : ∃ M2, f_MO_copy G mo (nI p) (nI q) M = some M2 ∧ Cpm um p q M M2 := by
  have n3 := hR.ne3
  have n2 := hR.ne2
  have ip : ix (nI p) 4 = some p := ix_nI hp (by decide)
  have iq : ix (nI q) 4 = some q := ix_nI hq (by decide)
  have r := hR
  obtain ⟨r0, r1, r2, r3, r4, r5, r6, r7, g0, g1, g2, g3, g4, g5, g6, g7, -⟩ := r
  have a5 : ∀ (x : Int32) (y j : Nat), gi (si M (um 2) y x) (um 5) j = gi M (um 5) j := fun x y j => by rw [gi_si, if_neg (fun q => n2.2.2.2.2.2.1 q.1.symm)]
  obtain ⟨M2, e, c⟩ := cp26_loop (M := si (si M (um 2) q (gi M (um 2) p)) (um 5) q (gi M (um 5) p)) hp hq hpq 16 0 4079 _ rfl (hR.ref (M2 := si (si M (um 2) q (gi M (um 2) p)) (um 5) q (gi M (um 5) p)) rfl) ⟨rfl, fun _ _ _ _ => rfl, fun _ _ => rfl, Rcp.zero, Rcp.zero, Rcp.zero, Rcp.zero⟩
  have k0 : (si (si M (um 2) q (gi M (um 2) p)) (um 5) q (gi M (um 5) p)).1 (um 0) = M.1 (um 0) := by rw [si_ne n2.2.1, si_ne n3.2.1]
  have k1 : (si (si M (um 2) q (gi M (um 2) p)) (um 5) q (gi M (um 5) p)).1 (um 1) = M.1 (um 1) := by rw [si_ne n2.2.2.2.1, si_ne n3.2.2]
  have k3 : (si (si M (um 2) q (gi M (um 2) p)) (um 5) q (gi M (um 5) p)).1 (um 3) = M.1 (um 3) := by rw [si_ne n2.2.2.2.2.2.2, si_ne (fun z => n2.2.2.2.2.1 z.symm)]
  obtain ⟨c1, c2, c3, c4, c5, c6, c7⟩ := c
  rw [k0] at c4
  rw [k1] at c5
  rw [k3] at c6
  refine ⟨M2, ?_, c1, fun c a0 a1 a2 a3 a4 => ?_, c3, fun j => ?_, fun j => ?_, c4, c5, c6, c7⟩
  · unfold f_MO_copy
    simp only [st, r2, g2, ip, iq, Option.bind_some, gr_si, r5, g5, a5]
    rw [nI_0] at e
    exact e
  · rw [c2 c a0 a1 a3, si_ne a4, si_ne a2]
  · rw [c2 _ (fun z => n3.2.1 z.symm) (fun z => n3.2.2 z.symm) n2.2.2.2.2.1]
    show gi (si (si M (um 2) q (gi M (um 2) p)) (um 5) q (gi M (um 5) p)) (um 2) j = _
    rw [gi_si, if_neg (fun z => n2.2.2.2.2.2.1 z.1), gi_si, if_self]
    rfl
  · rw [c2 _ (fun z => n2.2.1 z.symm) (fun z => n2.2.2.2.1 z.symm) (fun z => n2.2.2.2.2.2.2 z.symm)]
    show gi (si (si M (um 2) q (gi M (um 2) p)) (um 5) q (gi M (um 5) p)) (um 5) j = _
    rw [gi_si, if_self, a5]
    rfl
theorem MpS.cp (c : Cpm um p q M M2) (hq : q < 4) (h : MpS G M mo um p K L) : MpS G M2 mo um q K L := by
  obtain ⟨hR, hm, ⟨h1, h2, h3⟩, hp, hs⟩ := h
  refine ⟨hR.ref c.1, hq, ⟨h1, ?_, ?_⟩, hp, hs⟩
  · show M2.1 (um 2) q = _
    rw [c.2.2.2.1, if_pos rfl]
    exact h2
  · rw [rows_iff] at h3 ⊢
    intro j e he
    have hj := (List.getElem?_eq_some_iff.mp he).1
    show M2.1 (um 0) (16 * q + j) = _ ∧ M2.1 (um 1) (16 * q + j) = _
    rw [c.2.2.2.2.2.1.inn (by omega), c.2.2.2.2.2.2.1.inn (by omega)]
    exact h3 j e he
theorem MpS.off (c : Cpm um p q M M2) (hn : m ≠ q) (h : MpS G M mo um m K L) : MpS G M2 mo um m K L := by
  obtain ⟨hR, hm, ⟨h1, h2, h3⟩, hp, hs⟩ := h
  refine ⟨hR.ref c.1, hm, ⟨h1, ?_, ?_⟩, hp, hs⟩
  · show M2.1 (um 2) m = _
    rw [c.2.2.2.1, if_neg hn]
    exact h2
  · rw [rows_iff] at h3 ⊢
    intro j e he
    have hj := (List.getElem?_eq_some_iff.mp he).1
    show M2.1 (um 0) (16 * m + j) = _ ∧ M2.1 (um 1) (16 * m + j) = _
    rw [c.2.2.2.2.2.1.out hn (by omega), c.2.2.2.2.2.2.1.out hn (by omega)]
    exact h3 j e he
theorem Mb.cp (c : Cpm um p q M M2) (hq : q < 4) (h : Mb G M mo um p K L ps) : Mb G M2 mo um q K L ps := by
  obtain ⟨hm, ⟨p1, p2, p3, p4⟩, hd, hn, hc⟩ := h
  refine ⟨hm.cp c hq, ⟨p1, ?_, fun j Q hj => ?_, p4⟩, fun j Q hj => ?_, hn, hc⟩
  · show M2.1 (um 5) q = _
    rw [c.2.2.2.2.1, if_pos rfl]
    exact p2
  · have := (List.getElem?_eq_some_iff.mp hj).1
    show M2.1 (um 3) (16 * q + j) = _
    rw [c.2.2.2.2.2.2.2.1.inn (by omega)]
    exact p3 j Q hj
  · have := (List.getElem?_eq_some_iff.mp hj).1
    show M2.2.1 (um 4) (16 * q + j) = _
    rw [c.2.2.2.2.2.2.2.2.inn (by omega)]
    exact hd j Q hj
theorem Mb.off (c : Cpm um p q M M2) (hq : m ≠ q) (h : Mb G M mo um m K L ps) : Mb G M2 mo um m K L ps := by
  obtain ⟨hm, ⟨p1, p2, p3, p4⟩, hd, hn, hc⟩ := h
  refine ⟨hm.off c hq, ⟨p1, ?_, fun j Q hj => ?_, p4⟩, fun j Q hj => ?_, hn, hc⟩
  · show M2.1 (um 5) m = _
    rw [c.2.2.2.2.1, if_neg hq]
    exact p2
  · have := (List.getElem?_eq_some_iff.mp hj).1
    show M2.1 (um 3) (16 * m + j) = _
    rw [c.2.2.2.2.2.2.2.1.out hq (by omega)]
    exact p3 j Q hj
  · have := (List.getElem?_eq_some_iff.mp hj).1
    show M2.2.1 (um 4) (16 * m + j) = _
    rw [c.2.2.2.2.2.2.2.2.out hq (by omega)]
    exact hd j Q hj
theorem Cpm.wk (hR : ModelR G M mo um) (c : Cpm um p q M M2) : Wk mo um M M2 := by
  have n1 := hR.ne
  exact ⟨c.1, fun j _ => by rw [c.2.1 mo (fun z => n1.1 z.symm) (fun z => n1.2.1 z.symm) (fun z => n1.2.2.1 z.symm) (fun z => n1.2.2.2.1 z.symm) (fun z => n1.2.2.2.2.1 z.symm)], c.2.2.1 _ (fun z => n1.2.2.2.2.2.2.2 z.symm)⟩
/-- the versions move up by one, the working map becomes the newest -/
theorem c87_loop {KK LL : Nat → List Ent} {PP : Nat → List (List Nat)} {n' : Nat} {v : Int32} (hn : n' ≤ 3) : ∀ (i f : Nat) (M : Mm), i ≤ n' → ModelR G M mo um → (∀ m, m < i → Mb G M mo um m (KK m) (LL m) (PP m)) → (∀ m, i ≤ m → m < n' → Mb G M mo um (m + 1) (KK m) (LL m) (PP m)) → Mb G M mo um 0 (KK 0) (LL 0) (PP 0) → ∃ M2, f_MO_commit_87 G (i + f + 1) mo v (nI i) M = some (v, M2) ∧ (∀ m, m < n' → Mb G M2 mo um (m + 1) (KK m) (LL m) (PP m)) ∧ Mb G M2 mo um 0 (KK 0) (LL 0) (PP 0) ∧ Wk mo um M M2 := by
  intro i
  induction i with
  | zero =>
    intro f M _ hR h1 h2 h0
    have h00 : nI 0 ≤ (0 : Int32) := Int32.le_refl _
    exact ⟨M, by rw [f_MO_commit_87, if_pos h00], fun m hm => h2 m (by omega) hm, h0, Wk.rf⟩
  | succ i ih =>
    intro f M hi hR h1 h2 h0
    obtain ⟨M1, e1, c1⟩ := copy_eq hR (show i < 4 by omega) (show i + 1 < 4 by omega) (show i ≠ i + 1 by omega)
    obtain ⟨M2, e2, g1, g2, g3⟩ := ih f M1 (by omega) (hR.ref c1.1) (fun m hm => (h1 m (by omega)).off c1 (by omega)) (fun m hm hm2 => by
      by_cases q : m = i
      · subst q
        exact (h1 m (by omega)).cp c1 (by omega)
      · exact (h2 m (by omega) hm2).off c1 (by omega)) (h0.off c1 (by omega))
    refine ⟨M2, ?_, g1, g2, (c1.wk hR).tr g3⟩
    rw [show i + 1 + f + 1 = (i + f + 1) + 1 by omega, f_MO_commit_87, if_neg (nI_nle (by omega) (by omega)), nI_pred, e1, Option.bind_some, pk_m1]
    exact e2
/-- the working map becomes the newest version, or the empty one -/
theorem back_eq {KK LL : Nat → List Ent} {PP : Nat → List (List Nat)} {n : Nat} (hn : n ≤ 3) (h3 : gi M mo 3 = nI n) (h0 : MpS G M mo um 0 K L) (hm : ∀ m, 1 ≤ m → m ≤ n → Mb G M mo um m (KK m) (LL m) (PP m)) : ∃ M2 K2, f_MO_back G mo M = some M2 ∧ MpS G M2 mo um 0 K2 (if n = 0 then [] else LL 1) ∧ (∀ m, 1 ≤ m → m ≤ n → Mb G M2 mo um m (KK m) (LL m) (PP m)) ∧ Wk mo um M M2 := by
  have hR := h0.1
  unfold f_MO_back
  rw [h3]
  by_cases c : n = 0
  · subst c
    have r := hR
    obtain ⟨r0, r1, r2, r3, r4, r5, r6, r7, g0, g1, g2, g3, g4, g5, g6, g7, -⟩ := r
    rw [if_pos nI_0, if_pos rfl, r2, g2, ix04, Option.bind_some]
    simp only [st]
    refine ⟨_, [], rfl, ⟨hR.ref rfl, by omega, ⟨by simp, ?_, ?_⟩, List.Perm.refl _, ⟨fun e he => (by cases he), List.Pairwise.nil⟩⟩, fun m a b => absurd a (by omega), rfl, fun j hj => ?_, rfl⟩
    · rw [gi_si, if_pos ⟨rfl, rfl⟩]; rfl
    · intro i hi
      simp at hi
    · rw [si_ne (fun z => hR.ne.2.2.1 z.symm)]
  · rw [if_neg (nI_ne0 (by omega) (by omega)), if_neg c]
    obtain ⟨M2, e, cp⟩ := copy_eq hR (show 1 < 4 by omega) (show 0 < 4 by omega) (show 1 ≠ 0 by omega)
    have e : f_MO_copy G mo 1 0 M = some M2 := e
    rw [e]
    exact ⟨M2, KK 1, rfl, (hm 1 (by omega) (by omega)).1.cp cp (by omega), fun m a b => (hm m a b).off cp (by omega), cp.wk hR⟩
theorem Bld.wk (hR : ModelR G M mo um) (h : Bld mo um M M2) : Wk mo um M M2 := ⟨h.1, h.2.2.1, h.2.2.2.1 _ hR.ne.2.2.2.2.2.2.1 (fun z => hR.ne.2.2.2.2.2.2.2 z.symm)⟩
theorem Say.wk (hR : ModelR G M mo um) (h : Say mo um M M2) : Wk mo um M M2 := ⟨h.1, h.2.2.1, h.2.2.2 _ hR.ne.2.2.2.2.2.2.1⟩
theorem Pt.wk (hR : ModelR G M mo um) (h : Pt um M M2) : Wk mo um M M2 := ⟨by rw [h.1], fun j _ => by rw [h.2.1 mo (fun z => hR.ne.1 z.symm) (fun z => hR.ne.2.1 z.symm) (fun z => hR.ne.2.2.1 z.symm)], by rw [h.1]⟩
theorem Mb.say (h : Mb G M mo um m K L ps) (s : Say mo um M M2) : Mb G M2 mo um m K L ps := ⟨h.1.say s, h.2.1.say h.1.1 s, h.2.2.1.say h.1.1 s, h.2.2.2⟩
/-- a later map stays while the first is built -/
theorem Mb.bld (h1 : 1 ≤ m) (h : Mb G M mo um m K L ps) (s : Bld mo um M M2) : Mb G M2 mo um m K L ps := by
  obtain ⟨hm, ⟨p1, p2, p3, p4⟩, hd, hn, hc⟩ := h
  refine ⟨hm.bld s, ⟨p1, ?_, fun j Q hj => ?_, p4⟩, fun j Q hj => ?_, hn, hc⟩
  · show M2.1 (um 5) m = _
    rw [s.2.2.2.2.2 m h1]
    exact p2
  · show M2.1 (um 3) (16 * m + j) = _
    rw [(s.2.2.2.2.1 _ (by omega)).1]
    exact p3 j Q hj
  · show M2.2.1 (um 4) (16 * m + j) = _
    rw [(s.2.2.2.2.1 _ (by omega)).2]
    exact hd j Q hj
theorem Mb.pt (h1 : 1 ≤ m) (h : Mb G M mo um m K L ps) (s : Pt um M M2) : Mb G M2 mo um m K L ps := by
  obtain ⟨⟨hR, hm, ⟨k1, k2, k3⟩, hp, hs⟩, ⟨p1, p2, p3, p4⟩, hd, hn, hc⟩ := h
  have n2 := hR.ne2
  have s3 : M2.1 (um 3) = M.1 (um 3) := s.2.1 _ (fun z => n2.1 z.symm) (fun z => n2.2.2.1 z.symm) (fun z => n2.2.2.2.2.1 z.symm)
  have s5 : M2.1 (um 5) = M.1 (um 5) := s.2.1 _ (fun z => n2.2.1 z.symm) (fun z => n2.2.2.2.1 z.symm) (fun z => n2.2.2.2.2.2.1 z.symm)
  refine ⟨⟨hR.ref (by rw [s.1]), hm, ⟨k1, ?_, ?_⟩, hp, hs⟩, ⟨p1, ?_, fun j Q hj => ?_, p4⟩, fun j Q hj => ?_, hn, hc⟩
  · show M2.1 (um 2) m = _
    rw [s.2.2.2 m h1]
    exact k2
  · rw [rows_iff] at k3 ⊢
    intro j e he
    show M2.1 (um 0) (16 * m + j) = _ ∧ M2.1 (um 1) (16 * m + j) = _
    rw [(s.2.2.1 _ (by omega)).1, (s.2.2.1 _ (by omega)).2]
    exact k3 j e he
  · show M2.1 (um 5) m = _
    rw [s5]
    exact p2
  · show M2.1 (um 3) (16 * m + j) = _
    rw [s3]
    exact p3 j Q hj
  · show M2.2.1 (um 4) (16 * m + j) = _
    rw [s.1]
    exact hd j Q hj
end MY
