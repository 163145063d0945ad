/-! The reference: which branches are one, which stand for the stored ones. -/
theorem srt_tail {a : Ent} {l : List Ent} (h : Srt (a :: l)) : Srt l := ⟨fun e he => h.1 e (List.mem_cons_of_mem _ he), (List.pairwise_cons.mp h.2).2⟩
theorem srt_mem_eq : ∀ (a b : List Ent), Srt a → Srt b → (∀ x, x ∈ a ↔ x ∈ b) → a = b := by
  intro a
  induction a with
  | nil =>
    intro b _ _ h
    cases b with
    | nil => rfl
    | cons y b => exact absurd ((h y).mpr List.mem_cons_self) List.not_mem_nil
  | cons x a ih =>
    intro b ha hb h
    cases b with
    | nil => exact absurd ((h x).mp List.mem_cons_self) List.not_mem_nil
    | cons y b =>
      have ha2 := (List.pairwise_cons.mp ha.2).1
      have hb2 := (List.pairwise_cons.mp hb.2).1
      have hxy : x = y := by
        rcases List.mem_cons.mp ((h x).mp List.mem_cons_self) with e | e
        · exact e
        · rcases List.mem_cons.mp ((h y).mpr List.mem_cons_self) with e' | e'
          · exact e'.symm
          · exact absurd (lx_trans _ _ _ (hb2 x e) (ha2 y e')) (lx_irrefl _)
      subst hxy
      congr 1
      refine ih b (srt_tail ha) (srt_tail hb) (fun z => ⟨fun hz => ?_, fun hz => ?_⟩)
      · rcases List.mem_cons.mp ((h z).mp (List.mem_cons_of_mem _ hz)) with e | e
        · subst e; exact absurd (ha2 z hz) (lx_irrefl _)
        · exact e
      · rcases List.mem_cons.mp ((h z).mpr (List.mem_cons_of_mem _ hz)) with e | e
        · subst e; exact absurd (hb2 z hz) (lx_irrefl _)
        · exact e
theorem srt_ext {a b : List Ent} (ha : Srt a) (hb : Srt b) (hl : a.length = b.length) (h : ∀ e ∈ a, e ∈ b) : a = b := by
  refine srt_mem_eq a b ha hb (fun x => ⟨h x, fun hx => ?_⟩)
  refine Classical.byContradiction (fun hn => ?_)
  have na : (kys a).Nodup := List.pairwise_map.mpr ha.keys.2
  have nn : (x.1 :: kys a).Nodup := List.nodup_cons.mpr ⟨fun q => by
    obtain ⟨e, he, e1⟩ := List.mem_map.mp q
    have e2 : e.2 = x.2 := by
      rw [← vals_mem hb.keys e (h e he) rfl, ← vals_mem hb.keys x hx rfl, e1]
    exact hn (by rw [← Prod.ext e1 e2]; exact he), na⟩
  have := nodup_len (x.1 :: kys a) (kys b) nn (fun y hy => by
    rcases List.mem_cons.mp hy with rfl | hy
    · exact List.mem_map.mpr ⟨x, hx, rfl⟩
    · obtain ⟨e, he, e1⟩ := List.mem_map.mp hy
      exact List.mem_map.mpr ⟨e, h e he, e1⟩)
  unfold kys at this
  rw [List.length_cons, List.length_map, List.length_map] at this
  omega
theorem div16 {a : Nat} (h : a < 2 ^ 31) : nI a / (16 : Int32) = nI (a / 16) := pk_div (d := 16) h (by decide) (by decide)
theorem rem16 {a : Nat} (h : a < 2 ^ 31) : nI a - nI a / (16 : Int32) * 16 = nI (a % 16) := pk_rem (d := 16) h (by decide) (by decide)
section MS1
variable {G : Nat → Nat} {M : Mm} {mo m1 m2 i1 i2 : Nat} {um : Nat → Nat} {K1 L1 K2 L2 : List Ent} {ps1 ps2 : List (List Nat)} {p1 p2 : List Nat}
theorem s98_yes {k53 : Nat → Int32 → Int32 → Int32 → Int32 → Int32 → Mm → Option Int32} (h : MpS G M mo um m2 K2 L2) {r1 r2 v3 v7 : Int32} : ∀ (l : List Ent) (j f : Nat), K2.drop j = l → j ≤ K2.length → f_MO_same_98 G k53 (l.length + f + 1) mo r1 r2 v3 (nI m2) v7 1 (nI (16 * m2 + j)) M = k53 mo r1 r2 v3 (nI m2) (v7 + 1) M := by
  have hx := h.1
  obtain ⟨q0, q1, q2, q3, q4, q5, q6, q7, g0, g1, g2, g3, g4, g5, g6, g7, -⟩ := hx
  have hm := h.2.1
  obtain ⟨h1, h4, h5⟩ := h.2.2.1
  intro l
  induction l with
  | nil =>
    intro j f hd hj
    have la := congrArg List.length hd
    rw [List.length_drop] at la
    simp at la
    rw [f_MO_same_98, q2, g2, ix_nI hm (by decide), Option.bind_some, h4, m16, if_pos (nI_le (by omega) (by omega)), if_neg (by decide)]
  | cons e l ih =>
    intro j f hd hj
    obtain ⟨hlt, he, hr⟩ := drop_at hd
    rw [show (e :: l).length + f + 1 = (l.length + f + 1) + 1 by simp; omega, f_MO_same_98, q2, g2, ix_nI hm (by decide), Option.bind_some, h4, m16, if_neg (nI_ge (by omega) (by omega)), if_neg (by decide), nI_1, show 16 * m2 + j + 1 = 16 * m2 + (j + 1) by omega]
    exact ih (j + 1) f hr (by omega)
theorem s98_step {k53 : Nat → Int32 → Int32 → Int32 → Int32 → Int32 → Mm → Option Int32} (h : MpS G M mo um m2 K2 L2) {a1 a2 a7 : Nat} {v3 : Int32} (l1 : a1 < 64) (l2 : a2 < 64) (l7 : a7 < 64) (hp1 : gi M (um 3) a1 = nI (num p1)) (hp2 : gi M (um 3) a2 = nI (num p2)) (n1 : nb p1) (n2 : nb p2) {q : List Nat} {v : Int32} (hq : gi M (um 0) a7 = nI (num (p1 ++ q))) (hv : gi M (um 1) a7 = v) (nq : nb (p1 ++ q)) {j f : Nat} {e : Ent} (he : K2[j]? = some e) : f_MO_same_98 G k53 (f + 1) mo (nI a1) (nI a2) v3 (nI m2) (nI a7) 0 (nI (16 * m2 + j)) M = if p2 <+: e.1 ∧ q = e.1.drop p2.length ∧ v = e.2 then f_MO_same_98 G k53 f mo (nI a1) (nI a2) v3 (nI m2) (nI a7) 1 (nI (16 * m2 + (j + 1))) M else f_MO_same_98 G k53 f mo (nI a1) (nI a2) v3 (nI m2) (nI a7) 0 (nI (16 * m2 + (j + 1))) M := by
  have hx := h.1
  obtain ⟨q0, q1, q2, q3, q4, q5, q6, q7, g0, g1, g2, g3, g4, g5, g6, g7, -⟩ := hx
  have hm := h.2.1
  have hnb := h.nb e (List.mem_of_getElem? he)
  obtain ⟨h1, h4, h5⟩ := h.2.2.1
  have hlt := (List.getElem?_eq_some_iff.mp he).1
  obtain ⟨w1, w2⟩ := rows_iff.mp h5 j e he
  have iq : ix (nI (16 * m2 + j)) 64 = some (16 * m2 + j) := ix_nI (by omega) (by decide)
  have x1 : ix (nI a1) 64 = some a1 := ix_nI l1 (by decide)
  have x2 : ix (nI a2) 64 = some a2 := ix_nI l2 (by decide)
  have x7 : ix (nI a7) 64 = some a7 := ix_nI l7 (by decide)
  have bh : f_MO_behind (nI (num (p1 ++ q))) (nI (num p1)) = nI (num q) := by rw [MO_behind_eq nq n1 (List.prefix_append _ _), List.drop_left]
  have nq' : nb q := by
    have := nb_drop nq p1.length
    rw [List.drop_left] at this
    exact this
  rw [f_MO_same_98, q2, g2, ix_nI hm (by decide), Option.bind_some, h4, m16, if_neg (nI_ge (by omega) (by omega)), if_pos rfl, nI_1, show 16 * m2 + j + 1 = 16 * m2 + (j + 1) by omega, q0, g0, iq, Option.bind_some, w1, q3, g3, x2, Option.bind_some, hp2, MO_begins_eq hnb n2]
  by_cases c : p2 <+: e.1
  · rw [if_pos c, if_neg (by decide), x7, Option.bind_some, x1, Option.bind_some, Option.bind_some, Option.bind_some, hq, hp1, bh, w1, hp2, MO_behind_eq hnb n2 c]
    by_cases c2 : q = e.1.drop p2.length
    · rw [if_pos (by rw [← c2]), q1, g1, x7, Option.bind_some, iq, Option.bind_some, hv, w2]
      by_cases c3 : v = e.2
      · rw [if_pos c3, if_pos ⟨c, c2, c3⟩]
      · rw [if_neg c3, if_neg (fun z => c3 z.2.2)]
    · rw [if_neg (fun z => c2 ((num_eqI nq' (nb_drop hnb _)).mp z)), if_neg (fun z => c2 z.2.1)]
  · rw [if_neg c, if_pos rfl, if_neg (fun z => c z.1)]
theorem s98_no {k53 : Nat → Int32 → Int32 → Int32 → Int32 → Int32 → Mm → Option Int32} (h : MpS G M mo um m2 K2 L2) {a1 a2 a7 : Nat} {v3 : Int32} (l1 : a1 < 64) (l2 : a2 < 64) (l7 : a7 < 64) (hp1 : gi M (um 3) a1 = nI (num p1)) (hp2 : gi M (um 3) a2 = nI (num p2)) (n1 : nb p1) (n2 : nb p2) {q : List Nat} {v : Int32} (hq : gi M (um 0) a7 = nI (num (p1 ++ q))) (hv : gi M (um 1) a7 = v) (nq : nb (p1 ++ q)) : ∀ (l : List Ent) (j f : Nat), K2.drop j = l → j ≤ K2.length → (f_MO_same_98 G k53 (l.length + f + 1) mo (nI a1) (nI a2) v3 (nI m2) (nI a7) 0 (nI (16 * m2 + j)) M = k53 mo (nI a1) (nI a2) v3 (nI m2) (nI (a7 + 1)) M ∧ (q, v) ∈ rl p2 l) ∨ (f_MO_same_98 G k53 (l.length + f + 1) mo (nI a1) (nI a2) v3 (nI m2) (nI a7) 0 (nI (16 * m2 + j)) M = some 0 ∧ (q, v) ∉ rl p2 l) := by
  have hx := h.1
  obtain ⟨q0, q1, q2, q3, q4, q5, q6, q7, g0, g1, g2, g3, g4, g5, g6, g7, -⟩ := hx
  have hm := h.2.1
  obtain ⟨h1, h4, h5⟩ := h.2.2.1
  intro l
  induction l with
  | nil =>
    intro j f hd hj
    have la := congrArg List.length hd
    rw [List.length_drop] at la
    simp at la
    rw [f_MO_same_98, q2, g2, ix_nI hm (by decide), Option.bind_some, h4, m16, if_pos (nI_le (by omega) (by omega)), if_pos rfl]
    exact Or.inr ⟨rfl, fun z => by cases z⟩
  | cons e l ih =>
    intro j f hd hj
    obtain ⟨hlt, he, hr⟩ := drop_at hd
    have e1 : K2[j]? = some e := by rw [List.getElem?_eq_getElem hlt, he]
    rw [show (e :: l).length + f + 1 = (l.length + f + 1) + 1 by simp; omega, s98_step h l1 l2 l7 hp1 hp2 n1 n2 hq hv nq e1, rl_cons]
    by_cases c : p2 <+: e.1 ∧ q = e.1.drop p2.length ∧ v = e.2
    · rw [if_pos c, s98_yes h l (j + 1) f hr (by omega), nI_1, if_pos c.1]
      exact Or.inl ⟨rfl, List.mem_append_left _ (List.mem_singleton.mpr (Prod.ext c.2.1 c.2.2))⟩
    · rw [if_neg c]
      have hiff : (q, v) ∈ (if p2 <+: e.1 then [(e.1.drop p2.length, e.2)] else []) ++ rl p2 l ↔ (q, v) ∈ rl p2 l := by
        rw [List.mem_append]
        refine ⟨fun z => ?_, Or.inr⟩
        rcases z with z | z
        · by_cases d : p2 <+: e.1
          · rw [if_pos d] at z
            have := List.mem_singleton.mp z
            exact absurd ⟨d, (Prod.mk.inj this).1, (Prod.mk.inj this).2⟩ c
          · rw [if_neg d] at z; cases z
        · exact z
      rw [hiff]
      exact ih (j + 1) f hr (by omega)
theorem s53_loop (hA : MpS G M mo um m1 K1 L1) (hB : MpS G M mo um m2 K2 L2) {a1 a2 : Nat} (l1 : a1 < 64) (l2 : a2 < 64) (hp1 : gi M (um 3) a1 = nI (num p1)) (hp2 : gi M (um 3) a2 = nI (num p2)) (n1 : nb p1) (n2 : nb p2) : ∀ (l : List Ent) (j f : Nat), K1.drop j = l → j ≤ K1.length → Ans (f_MO_same_53 G (l.length + f + 1) mo (nI a1) (nI a2) (nI m1) (nI m2) (nI (16 * m1 + j)) M) (∀ e ∈ rl p1 l, e ∈ rl p2 K2) := by
  have hx := hA.1
  obtain ⟨q0, q1, q2, q3, q4, q5, q6, q7, g0, g1, g2, g3, g4, g5, g6, g7, -⟩ := hx
  have hm := hA.2.1
  have hnb := hA.nb
  obtain ⟨h1, h4, h5⟩ := hA.2.2.1
  have hK2 := hB.2.2.1.1
  intro l
  induction l with
  | nil =>
    intro j f hd hj
    have la := congrArg List.length hd
    rw [List.length_drop] at la
    simp at la
    rw [f_MO_same_53, q2, g2, ix_nI hm (by decide), Option.bind_some, h4, m16, if_pos (nI_le (by omega) (by omega))]
    exact Or.inl ⟨rfl, fun e he => by cases he⟩
  | cons e l ih =>
    intro j f hd hj
    obtain ⟨hlt, he, hr⟩ := drop_at hd
    have e1 : K1[j]? = some e := by rw [List.getElem?_eq_getElem hlt, he]
    obtain ⟨w1, w2⟩ := rows_iff.mp h5 j e e1
    have hb := hnb e (List.mem_of_getElem? e1)
    rw [show (e :: l).length + f + 1 = (l.length + f + 1) + 1 by simp; omega, f_MO_same_53, q2, g2, ix_nI hm (by decide), Option.bind_some, h4, m16, if_neg (nI_ge (by omega) (by omega)), q0, g0, ix_nI (show 16 * m1 + j < 64 by omega) (by decide), Option.bind_some, w1, q3, g3, ix_nI l1 (by decide), Option.bind_some, hp1, MO_begins_eq hb n1, nI_1, show 16 * m1 + j + 1 = 16 * m1 + (j + 1) by omega, rl_cons]
    by_cases c : p1 <+: e.1
    · have sp := pre_split c
      have ek : gi M (um 0) (16 * m1 + j) = nI (num (p1 ++ e.1.drop p1.length)) := by rw [← sp]; exact w1
      rw [if_pos c, if_neg (by decide), if_pos c, show (16 : Int32) * nI m2 = nI (16 * m2 + 0) from pk_mul 16 m2]
      have := s98_no (k53 := fun y0 y1 y2 y3 y4 y7 M => f_MO_same_53 G (l.length + f + 1) y0 y1 y2 y3 y4 y7 M) (v3 := nI m1) hB l1 l2 (show 16 * m1 + j < 64 by omega) hp1 hp2 n1 n2 ek w2 (by rw [← sp]; exact hb) K2 0 (4095 - K2.length) rfl (by omega)
      rw [show K2.length + (4095 - K2.length) + 1 = FU by unfold FU; omega] at this
      rcases this with ⟨a, d⟩ | ⟨a, d⟩
      · rw [a]
        refine (ih (j + 1) f hr (by omega)).iff ⟨fun z x hx => ?_, fun z x hx => z x (List.mem_append_right _ hx)⟩
        rcases List.mem_append.mp hx with hx | hx
        · rw [List.mem_singleton.mp hx]; exact d
        · exact z x hx
      · rw [a]
        exact Or.inr ⟨rfl, fun z => d (z _ (List.mem_append_left _ (List.mem_singleton.mpr rfl)))⟩
    · rw [if_neg c, if_pos rfl, if_neg c, List.nil_append]
      exact ih (j + 1) f hr (by omega)
theorem msame_eq (hA : Mb G M mo um m1 K1 L1 ps1) (hB : Mb G M mo um m2 K2 L2 ps2) (e1 : ps1[i1]? = some p1) (e2 : ps2[i2]? = some p2) : Ans (f_MO_same G mo (nI (16 * m1 + i1)) (nI (16 * m2 + i2)) M) (rl p1 L1 = rl p2 L2) := by
  have hx := hA.1.1
  obtain ⟨q0, q1, q2, q3, q4, q5, q6, q7, g0, g1, g2, g3, g4, g5, g6, g7, -⟩ := hx
  have l1 := (List.getElem?_eq_some_iff.mp e1).1
  have l2 := (List.getElem?_eq_some_iff.mp e2).1
  have b1 := hA.2.1.1
  have b2 := hB.2.1.1
  have m1' := hA.1.2.1
  have m2' := hB.1.2.1
  have n1 := hA.2.1.2.2.2 p1 (List.mem_of_getElem? e1)
  have n2 := hB.2.1.2.2.2 p2 (List.mem_of_getElem? e2)
  have r1 := hA.2.1.2.2.1 i1 p1 e1
  have r2 := hB.2.1.2.2.1 i2 p2 e2
  have d1 : nI (16 * m1 + i1) / (16 : Int32) = nI m1 := by rw [div16 (by omega), show (16 * m1 + i1) / 16 = m1 by omega]
  have d2 : nI (16 * m2 + i2) / (16 : Int32) = nI m2 := by rw [div16 (by omega), show (16 * m2 + i2) / 16 = m2 by omega]
  have c1 := rl16 hA.1 p1
  have c2 := rl16 hB.1 p2
  have k1 := hA.1.2.2.1.1
  unfold f_MO_same
  rw [q3, g3, ix_nI (show 16 * m1 + i1 < 64 by omega) (by decide), Option.bind_some, d1, r1, members_eq hA.1 n1, Option.bind_some, ix_nI (show 16 * m2 + i2 < 64 by omega) (by decide), Option.bind_some, d2, r2, members_eq hB.1 n2, Option.bind_some]
  by_cases c : (rl p1 L1).length = (rl p2 L2).length
  · rw [if_pos (by rw [c]), show (16 : Int32) * nI m1 = nI (16 * m1 + 0) from pk_mul 16 m1]
    have := s53_loop hA.1 hB.1 (show 16 * m1 + i1 < 64 by omega) (show 16 * m2 + i2 < 64 by omega) r1 r2 n1 n2 K1 0 (4095 - K1.length) rfl (by omega)
    rw [show K1.length + (4095 - K1.length) + 1 = FU by unfold FU; omega] at this
    refine this.iff ⟨fun z => ?_, fun z e he => ?_⟩
    · exact srt_ext (srt_rl hA.1.2.2.2.2 _) (srt_rl hB.1.2.2.2.2 _) c (fun e he => (rl_perm hB.1.2.2.2.1 p2).mem_iff.mp (z e ((rl_perm hA.1.2.2.2.1 p1).mem_iff.mpr he)))
    · exact (rl_perm hB.1.2.2.2.1 p2).mem_iff.mpr (by rw [← z]; exact (rl_perm hA.1.2.2.2.1 p1).mem_iff.mp he)
  · rw [if_neg (fun z => c ((nI_eq (by omega) (by omega)).mp z))]
    exact Or.inr ⟨rfl, fun z => c (by rw [z])⟩
end MS1
/-- the kind at a place of the versions -/
def dk (n : Nat) (LL : Nat → List Ent) (PP : Nat → List (List Nat)) (r : Nat) : List (List Ent) := if 1 ≤ r / 16 ∧ r / 16 ≤ n then ((PP (r / 16))[r % 16]?.map (fun p => rl p (LL (r / 16)))).toList else []
def Sn (n : Nat) (LL : Nat → List Ent) (PP : Nat → List (List Nat)) (r : Nat) : List (List Ent) := (List.range' 16 (r - 16)).flatMap (dk n LL PP)
section MS2
variable {G : Nat → Nat} {M : Mm} {mo n : Nat} {um : Nat → Nat} {KK LL : Nat → List Ent} {PP : Nat → List (List Nat)}
theorem dk_no {r : Nat} (h : n < r / 16 ∨ (PP (r / 16)).length ≤ r % 16) : dk n LL PP r = [] := by
  unfold dk
  by_cases c : 1 ≤ r / 16 ∧ r / 16 ≤ n
  · rw [if_pos c, List.getElem?_eq_none (by omega)]
    rfl
  · rw [if_neg c]
theorem dk_at {r : Nat} {p : List Nat} (h1 : 1 ≤ r / 16) (h2 : r / 16 ≤ n) (e : (PP (r / 16))[r % 16]? = some p) : dk n LL PP r = [rl p (LL (r / 16))] := by
  unfold dk
  rw [if_pos ⟨h1, h2⟩, e]
  rfl
theorem Sn_succ {r : Nat} (h : 16 ≤ r) (B : List Ent) : B ∈ Sn n LL PP (r + 1) ↔ B ∈ dk n LL PP r ++ Sn n LL PP r := by
  unfold Sn
  rw [show r + 1 - 16 = (r - 16) + 1 by omega, List.range'_concat, List.flatMap_append, List.mem_append, List.mem_append, show 16 + 1 * (r - 16) = r by omega]
  simp only [List.flatMap_cons, List.flatMap_nil, List.append_nil]
  exact or_comm
theorem fsum_step {g : List Ent → Nat} {r s : Nat} (h : 16 ≤ r) : fsum g (Sn n LL PP r) ((List.range' r (s + 1)).flatMap (dk n LL PP)) = fsum g (Sn n LL PP r) (dk n LL PP r) + fsum g (Sn n LL PP (r + 1)) ((List.range' (r + 1) s).flatMap (dk n LL PP)) := by
  rw [List.range'_succ, List.flatMap_cons, fsum_app]
  congr 1
  exact fsum_seen _ _ _ (fun B => (Sn_succ h B).symm)
theorem sd32_loop (hv : ∀ m, 1 ≤ m → m ≤ n → Mb G M mo um m (KK m) (LL m) (PP m)) {m1 i1 : Nat} {p : List Nat} (hm1 : 1 ≤ m1) (hm2 : m1 ≤ n) (e : (PP m1)[i1]? = some p) : ∀ (s v f : Nat), v + s = 16 * m1 + i1 → 16 ≤ v → Ans (f_MO_stands_32 G (s + f + 1) mo (nI (16 * m1 + i1)) (nI v) M) (rl p (LL m1) ∉ (List.range' v s).flatMap (dk n LL PP)) := by
  have hb := hv m1 hm1 hm2
  have hi := (List.getElem?_eq_some_iff.mp e).1
  have hp := hb.2.1.1
  have h4 := hb.1.2.1
  have hx := hb.1.1
  obtain ⟨q0, q1, q2, q3, q4, q5, q6, q7, g0, g1, g2, g3, g4, g5, g6, g7, -⟩ := hx
  intro s
  induction s with
  | zero =>
    intro v f hs h16
    rw [f_MO_stands_32, if_pos (nI_le (by omega) (by omega))]
    exact Or.inl ⟨rfl, fun z => by simp at z⟩
  | succ s ih =>
    intro v f hs h16
    have hv2 := hv (v / 16) (by omega) (by omega)
    rw [show s + 1 + f + 1 = (s + f + 1) + 1 by omega, f_MO_stands_32, if_neg (nI_ge (show v < 16 * m1 + i1 by omega) (by omega)), rem16 (by omega), div16 (by omega), q5, g5, ix_nI (show v / 16 < 4 by omega) (by decide), Option.bind_some, hv2.2.1.2.1, nI_1, List.range'_succ, List.flatMap_cons]
    have b2 := hv2.2.1.1
    by_cases c : (PP (v / 16)).length ≤ v % 16
    · rw [if_pos (nI_le c (by omega)), dk_no (Or.inr c), List.nil_append]
      exact ih (v + 1) f (by omega) (by omega)
    · have e2 : (PP (v / 16))[v % 16]? = some (PP (v / 16))[v % 16] := List.getElem?_eq_getElem (by omega)
      rw [if_neg (nI_ge (show v % 16 < (PP (v / 16)).length by omega) (by omega)), dk_at (by omega) (by omega) e2]
      have hs2 := msame_eq hb hv2 e e2
      rw [show 16 * (v / 16) + v % 16 = v by omega] at hs2
      rcases hs2 with ⟨a, d⟩ | ⟨a, d⟩
      · rw [a, Option.bind_some, if_neg (by decide)]
        exact Or.inr ⟨rfl, fun z => z (List.mem_append_left _ (List.mem_singleton.mpr d))⟩
      · rw [a, Option.bind_some, if_pos rfl]
        refine (ih (v + 1) f (by omega) (by omega)).iff ⟨fun z y => ?_, fun z y => z (List.mem_append_right _ y)⟩
        rcases List.mem_append.mp y with y | y
        · exact d (List.mem_singleton.mp y)
        · exact z y
theorem stands_eq (hR : ModelR G M mo um) (h3 : gi M mo 3 = nI n) (hn : n ≤ 3) (hv : ∀ m, 1 ≤ m → m ≤ n → Mb G M mo um m (KK m) (LL m) (PP m)) {r : Nat} (h16 : 16 ≤ r) (h64 : r < 64) : (f_MO_stands G mo (nI r) M = some 0 ∧ ∀ g, fsum g (Sn n LL PP r) (dk n LL PP r) = 0) ∨ (f_MO_stands G mo (nI r) M = some 1 ∧ ∃ p, 1 ≤ r / 16 ∧ r / 16 ≤ n ∧ (PP (r / 16))[r % 16]? = some p ∧ ∀ g, fsum g (Sn n LL PP r) (dk n LL PP r) = g (rl p (LL (r / 16)))) := by
  have hx := hR
  obtain ⟨q0, q1, q2, q3, q4, q5, q6, q7, g0, g1, g2, g3, g4, g5, g6, g7, -⟩ := hx
  unfold f_MO_stands
  rw [h3, rem16 (by omega), div16 (by omega)]
  by_cases c : n < r / 16
  · rw [if_pos (nI_lt c (by omega))]
    exact Or.inl ⟨rfl, fun g => by rw [dk_no (Or.inl c), fsum_nil]⟩
  · have hv2 := hv (r / 16) (by omega) (by omega)
    have b2 := hv2.2.1.1
    rw [if_neg (nI_nlt (by omega) (by omega)), q5, g5, ix_nI (show r / 16 < 4 by omega) (by decide), Option.bind_some, hv2.2.1.2.1]
    by_cases d : r % 16 < (PP (r / 16)).length
    · have e2 : (PP (r / 16))[r % 16]? = some (PP (r / 16))[r % 16] := List.getElem?_eq_getElem d
      rw [if_pos (nI_lt d (by omega))]
      have := sd32_loop hv (show 1 ≤ r / 16 by omega) (show r / 16 ≤ n by omega) e2 (r - 16) 16 (4095 - (r - 16)) (by omega) (by omega)
      rw [show r - 16 + (4095 - (r - 16)) + 1 = FU by unfold FU; omega, show 16 * (r / 16) + r % 16 = r by omega, show nI 16 = (16 : Int32) from rfl] at this
      rcases this with ⟨a, z⟩ | ⟨a, z⟩
      · refine Or.inr ⟨a, _, by omega, by omega, e2, fun g => ?_⟩
        rw [dk_at (by omega) (by omega) e2, fsum_out (s := Sn n LL PP r) z, fsum_nil, Nat.add_zero]
      · refine Or.inl ⟨a, fun g => ?_⟩
        rw [dk_at (by omega) (by omega) e2, fsum_in (s := Sn n LL PP r) (Classical.not_not.mp z), fsum_nil]
    · rw [if_neg (nI_nlt (by omega) (by omega))]
      exact Or.inl ⟨rfl, fun g => by rw [dk_no (Or.inr (by omega)), fsum_nil]⟩
theorem ms5_loop (hR : ModelR G M mo um) (h3 : gi M mo 3 = nI n) (hn : n ≤ 3) (hv : ∀ m, 1 ≤ m → m ≤ n → Mb G M mo um m (KK m) (LL m) (PP m)) : ∀ (s r f c : Nat), r + s = 64 → 16 ≤ r → f_MO_stored_5 G (s + f + 1) mo (nI c) (nI r) M = some (nI (c + fsum (fun _ => 1) (Sn n LL PP r) ((List.range' r s).flatMap (dk n LL PP)))) := by
  intro s
  induction s with
  | zero =>
    intro r f c hr h16
    have hr : r = 64 := by omega
    subst hr
    have h64 : (64 : Int32) ≤ nI 64 := Int32.le_refl _
    rw [f_MO_stored_5, if_pos h64]
    simp [fsum]
  | succ s ih =>
    intro r f c hr h16
    have h64 : ¬ (64 : Int32) ≤ nI r := nI_ge (show r < 64 by omega) (by decide)
    rw [show s + 1 + f + 1 = (s + f + 1) + 1 by omega, f_MO_stored_5, if_neg h64, fsum_step h16]
    rcases stands_eq hR h3 hn hv h16 (show r < 64 by omega) with ⟨a, d⟩ | ⟨a, p, _, _, _, d⟩
    · rw [a, Option.bind_some, if_pos rfl, nI_1, d, ih (r + 1) f c (by omega) (by omega), Nat.zero_add]
    · rw [a, Option.bind_some, if_neg (by decide), nI_1, nI_1, d, ih (r + 1) f (c + 1) (by omega) (by omega), Nat.add_assoc]
theorem mstored_eq (hR : ModelR G M mo um) (h3 : gi M mo 3 = nI n) (hn : n ≤ 3) (hv : ∀ m, 1 ≤ m → m ≤ n → Mb G M mo um m (KK m) (LL m) (PP m)) : f_MO_stored G mo M = some (nI (fsum (fun _ => 1) [] ((List.range' 16 48).flatMap (dk n LL PP)))) := by
  have := ms5_loop hR h3 hn hv 48 16 4047 0 rfl (by omega)
  rw [Nat.zero_add] at this
  exact this
/-- whether a branch of the working map is stored, or listed before -/
theorem hasB_loop (h3 : gi M mo 3 = nI n) (hn : n ≤ 3) (hv : ∀ m, 1 ≤ m → m ≤ n → Mb G M mo um m (KK m) (LL m) (PP m)) (h0 : Mb G M mo um 0 (KK 0) (LL 0) (PP 0)) {i : Nat} {p : List Nat} (e : (PP 0)[i]? = some p) : ∀ (s v f : Nat), v + s = 16 * (n + 1) → 16 ≤ v → Ans (f_MO_has_2 G (s + f + 1) mo (nI i) (nI v) M) (rl p (LL 0) ∈ (List.range' v s).flatMap (dk n LL PP)) := by
  have hx := h0.1.1
  obtain ⟨q0, q1, q2, q3, q4, q5, q6, q7, g0, g1, g2, g3, g4, g5, g6, g7, -⟩ := hx
  have e16 : (16 : Int32) * (nI n + 1) = nI (16 * (n + 1)) := by rw [nI_1]; exact pk_mul 16 (n + 1)
  intro s
  induction s with
  | zero =>
    intro v f hs h16
    rw [f_MO_has_2, h3, e16, if_pos (nI_le (by omega) (by omega))]
    exact Or.inr ⟨rfl, fun z => by simp at z⟩
  | succ s ih =>
    intro v f hs h16
    have hv2 := hv (v / 16) (by omega) (by omega)
    have b2 := hv2.2.1.1
    have hle : (16 : Int32) ≤ nI v := nI_le (a := 16) h16 (by omega)
    rw [show s + 1 + f + 1 = (s + f + 1) + 1 by omega, f_MO_has_2, h3, e16, if_neg (nI_ge (show v < 16 * (n + 1) by omega) (by omega)), if_pos hle, rem16 (by omega), div16 (by omega), q5, g5, ix_nI (show v / 16 < 4 by omega) (by decide), Option.bind_some, hv2.2.1.2.1, nI_1, List.range'_succ, List.flatMap_cons]
    by_cases c : (PP (v / 16)).length ≤ v % 16
    · rw [if_pos (nI_le c (by omega)), if_pos rfl, dk_no (Or.inr c), List.nil_append]
      exact ih (v + 1) f (by omega) (by omega)
    · have e2 : (PP (v / 16))[v % 16]? = some (PP (v / 16))[v % 16] := List.getElem?_eq_getElem (by omega)
      rw [if_neg (nI_ge (show v % 16 < (PP (v / 16)).length by omega) (by omega)), if_neg (by decide), dk_at (by omega) (by omega) e2]
      have hs2 := msame_eq h0 hv2 e e2
      rw [show 16 * (v / 16) + v % 16 = v by omega, Nat.mul_zero, Nat.zero_add] at hs2
      rcases hs2 with ⟨a, d⟩ | ⟨a, d⟩
      · rw [a, Option.bind_some, if_neg (by decide)]
        exact Or.inl ⟨rfl, List.mem_append_left _ (List.mem_singleton.mpr d)⟩
      · rw [a, Option.bind_some, if_pos rfl]
        refine (ih (v + 1) f (by omega) (by omega)).iff ⟨fun z => List.mem_append_right _ z, fun z => ?_⟩
        rcases List.mem_append.mp z with z | z
        · exact absurd (List.mem_singleton.mp z) d
        · exact z
theorem hasA_loop (h3 : gi M mo 3 = nI n) (hn : n ≤ 3) (hv : ∀ m, 1 ≤ m → m ≤ n → Mb G M mo um m (KK m) (LL m) (PP m)) (h0 : Mb G M mo um 0 (KK 0) (LL 0) (PP 0)) {i : Nat} {p : List Nat} (e : (PP 0)[i]? = some p) : ∀ (s v f : Nat), v + s = 16 → Ans (f_MO_has_2 G (s + (16 * n + f + 1)) mo (nI i) (nI v) M) (rl p (LL 0) ∈ (((PP 0).map (fun p => rl p (LL 0))).take i).drop v ++ (List.range' 16 (16 * n)).flatMap (dk n LL PP)) := by
  have hi := (List.getElem?_eq_some_iff.mp e).1
  have hp := h0.2.1.1
  have e16 : (16 : Int32) * (nI n + 1) = nI (16 * (n + 1)) := by rw [nI_1]; exact pk_mul 16 (n + 1)
  intro s
  induction s with
  | zero =>
    intro v f hs
    have hs : v = 16 := by omega
    subst hs
    have := hasB_loop h3 hn hv h0 e (16 * n) 16 f (by omega) (by omega)
    rw [Nat.zero_add, List.drop_eq_nil_of_le (by rw [List.length_take]; omega), List.nil_append]
    exact this
  | succ s ih =>
    intro v f hs
    have hle : ¬ (16 : Int32) ≤ nI v := nI_ge (show v < 16 by omega) (by decide)
    rw [show s + 1 + (16 * n + f + 1) = (s + (16 * n + f + 1)) + 1 by omega, f_MO_has_2, h3, e16, if_neg (nI_ge (show v < 16 * (n + 1) by omega) (by omega)), if_neg hle, nI_1]
    by_cases c : i ≤ v
    · rw [if_pos (nI_le c (by omega)), if_pos rfl]
      have := ih (v + 1) f (by omega)
      rw [List.drop_eq_nil_of_le (by rw [List.length_take]; omega)] at this
      rw [List.drop_eq_nil_of_le (by rw [List.length_take]; omega)]
      exact this
    · have e2 : (PP 0)[v]? = some (PP 0)[v] := List.getElem?_eq_getElem (by omega)
      have hd : (((PP 0).map (fun p => rl p (LL 0))).take i).drop v = rl (PP 0)[v] (LL 0) :: (((PP 0).map (fun p => rl p (LL 0))).take i).drop (v + 1) := by
        rw [List.drop_eq_getElem_cons (by rw [List.length_take, List.length_map]; omega), List.getElem_take, List.getElem_map]
      rw [if_neg (nI_ge (show v < i by omega) (by omega)), if_neg (by decide), hd]
      have hs2 := msame_eq h0 h0 e e2
      rw [Nat.mul_zero, Nat.zero_add, Nat.zero_add] at hs2
      rcases hs2 with ⟨a, d⟩ | ⟨a, d⟩
      · rw [a, Option.bind_some, if_neg (by decide)]
        exact Or.inl ⟨rfl, by rw [d]; exact List.mem_cons_self⟩
      · rw [a, Option.bind_some, if_pos rfl]
        refine (ih (v + 1) f (by omega)).iff ⟨fun z => List.mem_cons_of_mem _ z, fun z => ?_⟩
        rcases List.mem_cons.mp z with z | z
        · exact absurd z d
        · exact z
theorem mhas_eq (h3 : gi M mo 3 = nI n) (hn : n ≤ 3) (hv : ∀ m, 1 ≤ m → m ≤ n → Mb G M mo um m (KK m) (LL m) (PP m)) (h0 : Mb G M mo um 0 (KK 0) (LL 0) (PP 0)) {i : Nat} {p : List Nat} (e : (PP 0)[i]? = some p) : Ans (f_MO_has G mo (nI i) M) (rl p (LL 0) ∈ ((PP 0).map (fun p => rl p (LL 0))).take i ++ (List.range' 16 (16 * n)).flatMap (dk n LL PP)) := by
  have := hasA_loop h3 hn hv h0 e 16 0 (4079 - 16 * n) rfl
  rw [show 16 + (16 * n + (4079 - 16 * n) + 1) = FU by unfold FU; omega, nI_0, List.drop_zero] at this
  exact this
/-- the count of a commit -/
theorem cm9_loop (h3 : gi M mo 3 = nI n) (hn : n ≤ 3) (hv : ∀ m, 1 ≤ m → m ≤ n → Mb G M mo um m (KK m) (LL m) (PP m)) (h0 : Mb G M mo um 0 (KK 0) (LL 0) (PP 0)) {w : Int32} : ∀ (l : List (List Nat)) (i f c : Nat), (PP 0).drop i = l → i ≤ (PP 0).length → f_MO_commit_9 G (l.length + f + 1) mo w (nI c) (nI i) M = f_MO_commit_9 G (f + 1) mo w (nI (c + fsum (fun _ => 1) (((PP 0).map (fun p => rl p (LL 0))).take i ++ (List.range' 16 (16 * n)).flatMap (dk n LL PP)) (l.map (fun p => rl p (LL 0))))) (nI (PP 0).length) M := by
  have hx := h0.1.1
  obtain ⟨q0, q1, q2, q3, q4, q5, q6, q7, g0, g1, g2, g3, g4, g5, g6, g7, -⟩ := hx
  have hp := h0.2.1.1
  intro l
  induction l with
  | nil =>
    intro i f c hd hi
    have la := congrArg List.length hd
    rw [List.length_drop] at la
    simp at la
    rw [List.map_nil, fsum_nil, Nat.add_zero, show i = (PP 0).length by omega]
    simp
  | cons p l ih =>
    intro i f c hd hi
    obtain ⟨hlt, he, hr⟩ := drop_at hd
    have e1 : (PP 0)[i]? = some p := by rw [List.getElem?_eq_getElem hlt, he]
    have nx := fun c => ih (i + 1) f c hr (by omega)
    have hk : ((PP 0).map (fun p => rl p (LL 0)))[i]? = some (rl p (LL 0)) := by rw [List.getElem?_map, e1]; rfl
    have es := fsum_seen (g := fun _ => 1) (l.map (fun p => rl p (LL 0))) (((PP 0).map (fun p => rl p (LL 0))).take (i + 1) ++ (List.range' 16 (16 * n)).flatMap (dk n LL PP)) (rl p (LL 0) :: (((PP 0).map (fun p => rl p (LL 0))).take i ++ (List.range' 16 (16 * n)).flatMap (dk n LL PP))) (fun B => by
      rw [List.take_succ, hk]
      simp only [Option.toList, List.mem_cons, List.mem_append, List.mem_singleton, List.not_mem_nil, or_false]
      constructor
      · rintro ((h | h) | h)
        · exact Or.inr (Or.inl h)
        · exact Or.inl h
        · exact Or.inr (Or.inr h)
      · rintro (h | h | h)
        · exact Or.inl (Or.inr h)
        · exact Or.inl (Or.inl h)
        · exact Or.inr h)
    rw [show (p :: l).length + f + 1 = (l.length + f + 1) + 1 by simp; omega, f_MO_commit_9, q5, g5, ix04, Option.bind_some, h0.2.1.2.1, if_neg (nI_ge hlt (by omega)), List.map_cons]
    rcases mhas_eq h3 hn hv h0 e1 with ⟨a, d⟩ | ⟨a, d⟩
    · rw [a, Option.bind_some, if_neg (by decide), nI_1, nx, fsum_in d, es]
    · rw [a, Option.bind_some, if_pos rfl, nI_1, nI_1, nx, fsum_out d, es, Nat.add_assoc]
end MS2
