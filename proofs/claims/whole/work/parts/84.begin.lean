/-! The fresh memory keeps the relation. -/
theorem flat_at {α : Type} {f : Nat → List α} {N : Nat} (hf : ∀ j, (f j).length = N) : ∀ (n s j i : Nat), j < n → i < N → ((List.range' s n).flatMap f)[N * j + i]? = (f (s + j))[i]? := by
  intro n
  induction n with
  | zero => intro s j i hj; omega
  | succ n ih =>
    intro s j i hj hi
    rw [List.range'_succ, List.flatMap_cons]
    cases j with
    | zero =>
      rw [Nat.mul_zero, Nat.zero_add, List.getElem?_append_left (by rw [hf]; exact hi)]
      rfl
    | succ j =>
      rw [List.getElem?_append_right (by rw [hf, Nat.mul_succ]; omega), hf, show N * (j + 1) + i - N = N * j + i by rw [Nat.mul_succ]; omega, ih (s + 1) j i (by omega) hi, show s + 1 + j = s + (j + 1) by omega]
theorem tr_cell {a : Nat} {u : Nat → Nat} {p : Nat} (hp : p < 13) : ∃ d : De, (dsTR a u)[1 + p]? = some d ∧ d.1 = u p := by
  rcases (show p = 0 ∨ p = 1 ∨ p = 2 ∨ p = 3 ∨ p = 4 ∨ p = 5 ∨ p = 6 ∨ p = 7 ∨ p = 8 ∨ p = 9 ∨ p = 10 ∨ p = 11 ∨ p = 12 by omega) with rfl | rfl | rfl | rfl | rfl | rfl | rfl | rfl | rfl | rfl | rfl | rfl | rfl
  all_goals exact ⟨_, rfl, rfl⟩
section BG
variable {x k : Nat} {b t : Nat → Nat} {uu : Nat → Nat → Nat} {mo : Nat} {um : Nat → Nat}
theorem tr_at {j i : Nat} (hj : j ≤ k) (hi : i < 14) : (dsNT x k b t uu)[4 + (14 * j + i)]? = (dsTR (t j) (uu j))[i]? := by
  unfold dsNT
  rw [List.getElem?_append_right (by show 4 ≤ _; omega)]
  show ((List.range (k + 1)).flatMap (fun j => dsTR (t j) (uu j)))[4 + (14 * j + i) - 4]? = _
  rw [show 4 + (14 * j + i) - 4 = 14 * j + i by omega, List.range_eq_range', flat_at (f := fun j => dsTR (t j) (uu j)) (N := 14) (fun _ => rfl) (k + 1) 0 j i (by omega) hi, Nat.zero_add]
theorem cell_t {j : Nat} (hj : j ≤ k) : ∃ d : De, (dsNT x k b t uu)[4 + (14 * j + 0)]? = some d ∧ d.1 = t j := ⟨_, (tr_at hj (by omega)).trans rfl, rfl⟩
theorem cell_u {j p : Nat} (hj : j ≤ k) (hp : p < 13) : ∃ d : De, (dsNT x k b t uu)[4 + (14 * j + (1 + p))]? = some d ∧ d.1 = uu j p := by
  obtain ⟨d, h1, h2⟩ := tr_cell (a := t j) (u := uu j) hp
  exact ⟨d, (tr_at hj (by omega)).trans h1, h2⟩
theorem cell_x : ∃ d : De, (dsNT x k b t uu)[0]? = some d ∧ d.1 = x := ⟨_, rfl, rfl⟩
theorem cell_b {i : Nat} (hi : i < 3) : ∃ d : De, (dsNT x k b t uu)[1 + i]? = some d ∧ d.1 = b i := by
  rcases (show i = 0 ∨ i = 1 ∨ i = 2 by omega) with rfl | rfl | rfl
  all_goals exact ⟨_, rfl, rfl⟩
theorem ntne (hn : ∀ (i j : Nat) (p q : De), (dsA x k b t uu mo (nI k) um)[i]? = some p → (dsA x k b t uu mo (nI k) um)[j]? = some q → p.1 = q.1 → i = j) {i j : Nat} {p q : De} (hi : (dsNT x k b t uu)[i]? = some p) (hj : (dsNT x k b t uu)[j]? = some q) (e : p.1 = q.1) : i = j := by
  have := hn (9 + i) (9 + j) p q (by rw [nt_at]; exact hi) (by rw [nt_at]; exact hj) e
  omega
theorem dstA (hn : ∀ (i j : Nat) (p q : De), (dsA x k b t uu mo (nI k) um)[i]? = some p → (dsA x k b t uu mo (nI k) um)[j]? = some q → p.1 = q.1 → i = j) : Dst x k b t uu := by
  have X := cell_x (x := x) (k := k) (b := b) (t := t) (uu := uu)
  have B := fun (i : Nat) (hi : i < 3) => cell_b (x := x) (k := k) (b := b) (t := t) (uu := uu) hi
  have T := fun (j : Nat) (hj : j ≤ k) => cell_t (x := x) (k := k) (b := b) (t := t) (uu := uu) hj
  have U := fun (j p : Nat) (hj : j ≤ k) (hp : p < 13) => cell_u (x := x) (k := k) (b := b) (t := t) (uu := uu) hj hp
  obtain ⟨dx, x1, x2⟩ := X
  refine ⟨fun j i hj hi e => ?_, fun j i p q hj hi hp hq e => ?_, fun j i p hj hi hp e => ?_, fun j hj e => ?_, fun j p hj hp e => ?_, fun i hi e => ?_, fun i j hi hj e => ?_, fun i j p hi hj hp e => ?_, fun i j hi hj e => ?_⟩
  · obtain ⟨d, d1, d2⟩ := T j hj
    obtain ⟨f, f1, f2⟩ := T i hi
    have := ntne hn d1 f1 (by rw [d2, f2, e])
    omega
  · obtain ⟨d, d1, d2⟩ := U j p hj hp
    obtain ⟨f, f1, f2⟩ := U i q hi hq
    have := ntne hn d1 f1 (by rw [d2, f2, e])
    exact ⟨by omega, by omega⟩
  · obtain ⟨d, d1, d2⟩ := T j hj
    obtain ⟨f, f1, f2⟩ := U i p hi hp
    have := ntne hn d1 f1 (by rw [d2, f2, e])
    omega
  · obtain ⟨f, f1, f2⟩ := T j hj
    have := ntne hn x1 f1 (by rw [x2, f2, e])
    omega
  · obtain ⟨f, f1, f2⟩ := U j p hj hp
    have := ntne hn x1 f1 (by rw [x2, f2, e])
    omega
  · obtain ⟨f, f1, f2⟩ := B i hi
    have := ntne hn x1 f1 (by rw [x2, f2, e])
    omega
  · obtain ⟨d, d1, d2⟩ := B i hi
    obtain ⟨f, f1, f2⟩ := T j hj
    have := ntne hn d1 f1 (by rw [d2, f2, e])
    omega
  · obtain ⟨d, d1, d2⟩ := B i hi
    obtain ⟨f, f1, f2⟩ := U j p hj hp
    have := ntne hn d1 f1 (by rw [d2, f2, e])
    omega
  · obtain ⟨d, d1, d2⟩ := B i hi
    obtain ⟨f, f1, f2⟩ := B j hj
    have := ntne hn d1 f1 (by rw [d2, f2, e])
    omega
theorem ctxA (hn : ∀ (i j : Nat) (p q : De), (dsA x k b t uu mo (nI k) um)[i]? = some p → (dsA x k b t uu mo (nI k) um)[j]? = some q → p.1 = q.1 → i = j) (hk : 1 ≤ k) (hk3 : k ≤ 3) : Ctx (KD (dsA x k b t uu mo (nI k) um)) (GD (dsA x k b t uu mo (nI k) um)) (OD mo um) x k b t uu mo um := by
  have kx : KD (dsA x k b t uu mo (nI k) um) x = 5 := by
    have h := look_in hn (in_nt (x := x) (k := k) (b := b) (t := t) (uu := uu) (mo := mo) (v := nI k) (um := um) (i := 0) rfl)
    unfold KD
    rw [h]
  have km : KD (dsA x k b t uu mo (nI k) um) mo = 9 := by
    have h := look_in hn (in_mo (x := x) (k := k) (b := b) (t := t) (uu := uu) (mo := mo) (v := nI k) (um := um) (List.mem_of_getElem? (i := 0) rfl))
    unfold KD
    rw [h]
  have lab : ∀ {i : Nat} {d : De}, (dsNT x k b t uu)[i]? = some d → OD mo um d.1 = 1 := fun h => OD_nt hn (List.mem_of_getElem? h)
  refine ⟨⟨kx, ?_, km, OD_mo, fun j hj => OD_um hj⟩, ⟨fun i hi => ?_, fun j hj => ?_, fun j p hj hp => ?_⟩, dstA hn, hk, hk3⟩
  · obtain ⟨d, d1, d2⟩ := cell_x (x := x) (k := k) (b := b) (t := t) (uu := uu)
    rw [← d2]; exact lab d1
  · obtain ⟨d, d1, d2⟩ := cell_b (x := x) (k := k) (b := b) (t := t) (uu := uu) hi
    rw [← d2]; exact lab d1
  · obtain ⟨d, d1, d2⟩ := cell_t (x := x) (k := k) (b := b) (t := t) (uu := uu) hj
    rw [← d2]; exact lab d1
  · obtain ⟨d, d1, d2⟩ := cell_u (x := x) (k := k) (b := b) (t := t) (uu := uu) hj hp
    rw [← d2]; exact lab d1
theorem triA (hn : ∀ (i j : Nat) (p q : De), (dsA x k b t uu mo (nI k) um)[i]? = some p → (dsA x k b t uu mo (nI k) um)[j]? = some q → p.1 = q.1 → i = j) {j : Nat} (hj : j ≤ k) : TrI (GD (dsA x k b t uu mo (nI k) um)) (MD (dsA x k b t uu mo (nI k) um)) (t j) (uu j) [] := by
  have hD := dstA hn
  have lt : ∀ (i : Nat) (d : De), (dsTR (t j) (uu j))[i]? = some d → look (dsA x k b t uu mo (nI k) um) d.1 = d.2 := fun i d hd => look_in hn (in_tr (show j < k + 1 by omega) (List.mem_of_getElem? hd))
  have g : ∀ a j, gi (MD (dsA x k b t uu mo (nI k) um)) a j = (look (dsA x k b t uu mo (nI k) um) a).2.2.1 j := fun _ _ => rfl
  have r : ∀ a j, gr (MD (dsA x k b t uu mo (nI k) um)) a j = (look (dsA x k b t uu mo (nI k) um) a).2.2.2.2 j := fun _ _ => rfl
  have G1 : ∀ a, GD (dsA x k b t uu mo (nI k) um) a = (look (dsA x k b t uu mo (nI k) um) a).2.1 := fun _ => rfl
  have h0 := lt 0 _ rfl
  have h1 := lt 1 _ rfl
  have r1 : gr (MD (dsA x k b t uu mo (nI k) um)) (uu j 0) 0 = uu j 1 := by rw [r, h1]; rfl
  have r2 : gr (MD (dsA x k b t uu mo (nI k) um)) (uu j 0) 1 = uu j 2 := by rw [r, h1]; rfl
  have e1 : pw wl RD [] = 0 := by rw [show RD = 7 + 1 from rfl, pw, if_pos (by simp)]; rfl
  have e2 : pw we RD [] = 0 := by rw [show RD = 7 + 1 from rfl, pw, if_pos (by simp)]; unfold we; simp
  have e3 : brs [] = [] := by unfold brs; rw [show RD = 7 + 1 from rfl, lsr, if_pos (by simp)]
  refine ⟨⟨⟨⟨by rw [r, h0]; rfl, r1, r2, by rw [r, h0]; rfl, by rw [r, h0]; rfl, by rw [r, h0]; rfl, by rw [r, h0]; rfl, by rw [r, h0]; rfl, by rw [r, h0]; rfl, fun i _ => by rw [r, lt 9 _ rfl]⟩, ⟨by rw [G1, lt 2 _ rfl], by rw [G1, lt 3 _ rfl], by rw [G1, lt 4 _ rfl], by rw [G1, lt 5 _ rfl], by rw [G1, lt 6 _ rfl], by rw [G1, lt 7 _ rfl], by rw [G1, lt 8 _ rfl], by rw [G1, lt 9 _ rfl], fun i hi => ?_⟩, fun p q hp hq e => (hD.2.1 j j p q hj hj hp hq e).2, fun p hp => hD.2.2.1 j j p hj hj hp⟩, ⟨by simp, by rw [r1, G1, lt 2 _ rfl], by rw [r2, G1, lt 3 _ rfl], by rw [g, h1]; rfl, fun i hi => by simp at hi⟩, ⟨fun e he => (by cases he), List.Pairwise.nil⟩⟩, ?_⟩
  · rcases (show i = 0 ∨ i = 1 ∨ i = 2 ∨ i = 3 by omega) with rfl | rfl | rfl | rfl
    · rw [G1, lt 10 _ rfl]
    · rw [G1, lt 11 _ rfl]
    · rw [G1, lt 12 _ rfl]
    · rw [G1, lt 13 _ rfl]
  · rw [e1, e2, e3]
    exact ⟨by rw [g, h0]; rfl, by rw [g, h0]; rfl, by rw [g, h0]; rfl, fun i q hq => by simp at hq⟩
theorem freshA (hn : ∀ (i j : Nat) (p q : De), (dsA x k b t uu mo (nI k) um)[i]? = some p → (dsA x k b t uu mo (nI k) um)[j]? = some q → p.1 = q.1 → i = j) (hk : 1 ≤ k) (hk3 : k ≤ 3) : QQ (KD (dsA x k b t uu mo (nI k) um)) (GD (dsA x k b t uu mo (nI k) um)) (OD mo um) ((dsA x k b t uu mo (nI k) um).map Prod.fst) x k b t uu mo um (MD (dsA x k b t uu mo (nI k) um)) := by
  have hm := mfA hn
  obtain ⟨hc, -, -⟩ := cfA hk hk3 hn
  have lb : ∀ (i : Nat) (d : De), ([(x, 5, 0, (fun _ => 0), (fun _ => 0), (fun j => [t 0, b 0, 0, b 1].getD j 0)), (b 0, 3, k, (fun _ => 0), (fun _ => 0), (fun j => t (j + 1))), (b 1, 8, 0, (fun j => if j = 4 then 1 else 0), (fun _ => 0), (fun j => [b 2].getD j 0)), (b 2, 2, 199, (fun _ => 0), (fun _ => 0), (fun _ => 0))] : List De)[i]? = some d → look (dsA x k b t uu mo (nI k) um) d.1 = d.2 := fun i d hd => look_in hn (in_nt hd)
  have r : ∀ a j, gr (MD (dsA x k b t uu mo (nI k) um)) a j = (look (dsA x k b t uu mo (nI k) um) a).2.2.2.2 j := fun _ _ => rfl
  have G1 : ∀ a, GD (dsA x k b t uu mo (nI k) um) a = (look (dsA x k b t uu mo (nI k) um) a).2.1 := fun _ => rfl
  refine ⟨ziA hn, fun i => i + 1, [], fun _ => [], 0, fun _ => [], fun _ => [], [], ⟨⟨⟨hc.1, hc.2.1, hc.2.2.1, by rw [r, lb 2 _ rfl]; rfl, hc.2.2.2.2.1, by rw [G1, lb 3 _ rfl]⟩, hc.2.2.2.1, by omega, fun i hi => ⟨by show 1 ≤ i + 1; omega, by show i + 1 ≤ k; omega, by rw [r, lb 1 _ rfl]⟩, fun i j _ _ e => (by have e : i + 1 = j + 1 := e; omega), triA hn (by omega), fun i hi => triA hn (show i + 1 ≤ k by omega)⟩, hc.2.2.2.2.2.1, fun i y hy => by simp at hy, fun _ => rfl, by simp⟩, hm.2.2.1, hm.2.2.2.1, ⟨hm.1, by omega, ⟨by simp, hm.2.1, fun i hi => by simp at hi⟩, List.Perm.refl _, ⟨fun e he => (by cases he), List.Pairwise.nil⟩⟩, fun m h1 h2 => absurd h2 (by omega), hm.2.2.2.2, fun i y hy => by simp at hy⟩
end BG
