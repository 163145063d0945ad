/-! The first call: both sides answer alike. -/
theorem MF.agr {G : Nat → Nat} {M M1 : Mm} {mo k : Nat} {um : Nat → Nat} (h : MF G M mo um k) (a : Agr (OD mo um) 1 M M1) : MF G M1 mo um k := by
  have hm : OD mo um mo ≠ 1 := by rw [OD_mo]; decide
  have hu : ∀ j, j < 8 → OD mo um (um j) ≠ 1 := fun j hj => by rw [OD_um hj]; decide
  have r : ∀ j, gr M1 mo j = gr M mo j := fun j => by show M1.2.2 mo j = M.2.2 mo j; rw [(a mo hm).2.2]
  have g : ∀ j, gi M1 mo j = gi M mo j := fun j => by show M1.1 mo j = M.1 mo j; rw [(a mo hm).1]
  have g2 : gi M1 (um 2) 0 = gi M (um 2) 0 := by show M1.1 (um 2) 0 = M.1 (um 2) 0; rw [(a (um 2) (hu 2 (by omega))).1]
  obtain ⟨⟨r0, r1, r2, r3, r4, r5, r6, r7, hR⟩, h1, h2, h3, h4⟩ := h
  exact ⟨⟨(r 0).trans r0, (r 1).trans r1, (r 2).trans r2, (r 5).trans r3, (r 6).trans r4, (r 7).trans r5, (r 8).trans r6, (r 10).trans r7, hR⟩, g2.trans h1, (g 3).trans h2, (g 4).trans h3, (g 11).trans h4⟩
section FRESH
variable {x k : Nat} {b t : Nat → Nat} {uu : Nat → Nat → Nat} {mo : Nat} {um : Nat → Nat}
theorem mfA (hn : ∀ (i j : Nat) (p q : De), (dsA x k b t uu mo (nI k) um)[i]? = some p → (dsA x k b t uu mo (nI k) um)[j]? = some q → p.1 = q.1 → i = j) : MF (GD (dsA x k b t uu mo (nI k) um)) (MD (dsA x k b t uu mo (nI k) um)) mo um k := by
  have lk : ∀ (i : Nat) (d : De), (dsMO mo (nI k) um)[i]? = some d → look (dsA x k b t uu mo (nI k) um) d.1 = d.2 := fun i d hd => look_in hn (in_mo (List.mem_of_getElem? hd))
  have g : ∀ a j, gi (MD (dsA x k b t uu mo (nI k) um)) a j = (look (dsA x k b t uu mo (nI k) um) a).2.2.1 j := fun _ _ => rfl
  refine ⟨modelR hn, ?_, ?_, ?_, ?_⟩
  · rw [g, lk 3 _ rfl]
  · rw [g, lk 0 _ rfl]; rfl
  · rw [g, lk 0 _ rfl]; rfl
  · rw [g, lk 0 _ rfl]; rfl
theorem tr_ne (hn : ∀ (i j : Nat) (p q : De), (dsA x k b t uu mo (nI k) um)[i]? = some p → (dsA x k b t uu mo (nI k) um)[j]? = some q → p.1 = q.1 → i = j) {i j : Nat} {p q : De} (hi : (dsNT x k b t uu)[i]? = some p) (hj : (dsNT x k b t uu)[j]? = some q) (hij : i ≠ j) : p.1 ≠ q.1 := fun e => by
  have h1 := hn (9 + i) (9 + j) p q (by rw [nt_at]; exact hi) (by rw [nt_at]; exact hj) e
  omega
theorem cfA (hk : 1 ≤ k) (hk3 : k ≤ 3) (hn : ∀ (i j : Nat) (p q : De), (dsA x k b t uu mo (nI k) um)[i]? = some p → (dsA x k b t uu mo (nI k) um)[j]? = some q → p.1 = q.1 → i = j) : CF (GD (dsA x k b t uu mo (nI k) um)) (MD (dsA x k b t uu mo (nI k) um)) x k b t uu ∧ x ≠ b 0 ∧ ∀ j, j < k + 1 → t j ≠ b 0 := by
  have lb : ∀ (i : Nat) (d : De), ([(x, 5, 0, (fun _ => 0), (fun _ => 0), (fun j => [t 0, b 0, 0, b 1].getD j 0)), (b 0, 3, k, (fun _ => 0), (fun _ => 0), (fun j => t (j + 1))), (b 1, 8, 0, (fun j => if j = 4 then 1 else 0), (fun _ => 0), (fun j => [b 2].getD j 0)), (b 2, 2, 199, (fun _ => 0), (fun _ => 0), (fun _ => 0))] : List De)[i]? = some d → look (dsA x k b t uu mo (nI k) um) d.1 = d.2 := fun i d hd => look_in hn (in_nt hd)
  have lt : ∀ j, j < k + 1 → ∀ (i : Nat) (d : De), (dsTR (t j) (uu j))[i]? = some d → look (dsA x k b t uu mo (nI k) um) d.1 = d.2 := fun j hj i d hd => look_in hn (in_tr hj (List.mem_of_getElem? hd))
  have g : ∀ a j, gi (MD (dsA x k b t uu mo (nI k) um)) a j = (look (dsA x k b t uu mo (nI k) um) a).2.2.1 j := fun _ _ => rfl
  have r : ∀ a j, gr (MD (dsA x k b t uu mo (nI k) um)) a j = (look (dsA x k b t uu mo (nI k) um) a).2.2.2.2 j := fun _ _ => rfl
  have G1 : ∀ a, GD (dsA x k b t uu mo (nI k) um) a = (look (dsA x k b t uu mo (nI k) um) a).2.1 := fun _ => rfl
  refine ⟨⟨by rw [r, lb 0 _ rfl]; rfl, by rw [r, lb 0 _ rfl]; rfl, by rw [r, lb 0 _ rfl]; rfl, by rw [g, lb 0 _ rfl], by rw [G1, lb 1 _ rfl], by rw [g, lb 2 _ rfl]; rfl, fun j hj => by rw [r, lb 1 _ rfl], fun j hj => ⟨by rw [r, lt j hj 0 _ rfl]; rfl, by rw [g, lt j hj 0 _ rfl], by rw [g, lt j hj 0 _ rfl], by rw [g, lt j hj 0 _ rfl], by rw [g, lt j hj 1 _ rfl]⟩, by rw [r, lt 0 (by omega) 1 _ rfl]; rfl, by rw [r, lt 0 (by omega) 1 _ rfl]; rfl, by rw [G1, lt 0 (by omega) 2 _ rfl], by rw [G1, lt 0 (by omega) 3 _ rfl], ?_, ?_, ?_⟩, ?_, ?_⟩
  all_goals rcases (show k = 1 ∨ k = 2 ∨ k = 3 by omega) with rfl | rfl | rfl
  · exact tr_ne hn (i := 6) (j := 5) rfl rfl (by decide)
  · exact tr_ne hn (i := 6) (j := 5) rfl rfl (by decide)
  · exact tr_ne hn (i := 6) (j := 5) rfl rfl (by decide)
  · exact tr_ne hn (i := 7) (j := 5) rfl rfl (by decide)
  · exact tr_ne hn (i := 7) (j := 5) rfl rfl (by decide)
  · exact tr_ne hn (i := 7) (j := 5) rfl rfl (by decide)
  · exact tr_ne hn (i := 4) (j := 5) rfl rfl (by decide)
  · exact tr_ne hn (i := 4) (j := 5) rfl rfl (by decide)
  · exact tr_ne hn (i := 4) (j := 5) rfl rfl (by decide)
  · exact tr_ne hn (i := 0) (j := 1) rfl rfl (by decide)
  · exact tr_ne hn (i := 0) (j := 1) rfl rfl (by decide)
  · exact tr_ne hn (i := 0) (j := 1) rfl rfl (by decide)
  · intro j hj
    rcases (show j = 0 ∨ j = 1 by omega) with rfl | rfl
    · exact tr_ne hn (i := 4) (j := 1) rfl rfl (by decide)
    · exact tr_ne hn (i := 18) (j := 1) rfl rfl (by decide)
  · intro j hj
    rcases (show j = 0 ∨ j = 1 ∨ j = 2 by omega) with rfl | rfl | rfl
    · exact tr_ne hn (i := 4) (j := 1) rfl rfl (by decide)
    · exact tr_ne hn (i := 18) (j := 1) rfl rfl (by decide)
    · exact tr_ne hn (i := 32) (j := 1) rfl rfl (by decide)
  · intro j hj
    rcases (show j = 0 ∨ j = 1 ∨ j = 2 ∨ j = 3 by omega) with rfl | rfl | rfl | rfl
    · exact tr_ne hn (i := 4) (j := 1) rfl rfl (by decide)
    · exact tr_ne hn (i := 18) (j := 1) rfl rfl (by decide)
    · exact tr_ne hn (i := 32) (j := 1) rfl rfl (by decide)
    · exact tr_ne hn (i := 46) (j := 1) rfl rfl (by decide)
theorem step0 (hk : 1 ≤ k) (hk3 : k ≤ 3) (hn : ∀ (i j : Nat) (p q : De), (dsA x k b t uu mo (nI k) um)[i]? = some p → (dsA x k b t uu mo (nI k) um)[j]? = some q → p.1 = q.1 → i = j) : StepOK (GD (dsA x k b t uu mo (nI k) um)) x mo (fun _ => True) (MD (dsA x k b t uu mo (nI k) um)) := by
  have hm := mfA hn
  obtain ⟨hc, nx, nt⟩ := cfA hk hk3 hn
  have hz := ziA hn
  have hKx : KD (dsA x k b t uu mo (nI k) um) x = 5 := by
    have h := look_in hn (in_nt (x := x) (k := k) (b := b) (t := t) (uu := uu) (mo := mo) (v := nI k) (um := um) (i := 0) rfl)
    unfold KD
    rw [h]
  have hOx : OD mo um x = 1 := OD_nt hn (nt_b (i := 0) rfl)
  generalize dsA x k b t uu mo (nI k) um = ds at hm hc hz hKx
  refine ⟨fun a c => ?_, fun a => ⟨0, hc.get, hm.get⟩, ?_, ?_, fun a => ?_, fun a => ?_, ?_, ?_, fun a c => ?_, fun a => ?_, ⟨0, hc.stored, hm.stored⟩, fun d => ⟨0, _, hc.uses, hm.uses, trivial⟩, fun a c => ?_, fun a => ?_, fun a w => ?_, ?_, fun w a c => ?_, trivial⟩
  · obtain ⟨M1, e1⟩ := hc.put (a := a) (c := c)
    obtain ⟨M2, e2⟩ := (hm.agr (fo_NT_put x a c _ hKx hOx hz e1).1).put (a := a) (c := c)
    exact ⟨0, M1, M2, e1, e2, trivial⟩
  · obtain ⟨⟨r0, r1, r2, r3, r4, r5, r6, r7, g0, g1, g2, -⟩, h1, -⟩ := hm
    unfold f_MO_size f_NT_size
    rw [r2, g2, ix04, Option.bind_some, h1, hc.1, (hc.2.2.2.2.2.2.2.1 0 (by omega)).1, (hc.2.2.2.2.2.2.2.1 0 (by omega)).2.2.2.2]
  · obtain ⟨M2, e2⟩ := hm.root
    exact ⟨_, _, M2, hc.root, e2, trivial⟩
  · obtain ⟨M2, e2⟩ := hm.count (a := a)
    refine ⟨M2, ?_, trivial⟩
    rw [e2]
    obtain ⟨h1, h2, h3, h4, h5⟩ := hc.2.2.2.2.2.2.2.1 0 (by omega)
    unfold f_NT_count
    rw [hc.1, h2, h3, h4]
  · obtain ⟨M1, e1⟩ := hc.commit hk hk3 nx nt (a := a)
    obtain ⟨M2, e2⟩ := (hm.agr (fo_NT_commit x a _ hKx hOx hz e1).1).commit hk hk3 (a := a)
    exact ⟨_, M1, M2, e1, e2, trivial⟩
  · obtain ⟨M1, e1⟩ := hc.crash hk hk3
    obtain ⟨M2, e2⟩ := (hm.agr (fo_NT_crash x _ hKx hOx hz e1).1).crash
    exact ⟨_, M1, M2, e1, e2, trivial⟩
  · show gi _ x 2 = gi _ mo 3
    rw [hc.2.2.2.1, hm.2.2.1]
  · refine ⟨0, ?_, ?_⟩
    · unfold f_NT_at; rw [hc.isk, if_pos rfl]
    · unfold f_MO_at; rw [hm.isv, if_pos rfl]
  · refine ⟨0, MD ds, MD ds, ?_, ?_, trivial⟩
    · unfold f_NT_rootAt; rw [hc.isk, if_pos rfl]
    · unfold f_MO_rootAt; rw [hm.isv, if_pos rfl]
  · refine ⟨-1, MD ds, MD ds, ?_, ?_, trivial⟩
    · unfold f_NT_prove; rw [hc.isk, if_pos rfl]
    · unfold f_MO_prove; rw [hm.isv, if_pos rfl]
  · refine ⟨0, ?_, ?_⟩
    · unfold f_NT_word; rw [hc.2.2.1, hc.has, if_pos rfl]
    · unfold f_MO_word
      rw [hm.2.2.2.2]
      by_cases ha : a < 0
      · rw [if_pos ha]
      · rw [if_neg ha, if_pos (Int32.not_lt.mp ha)]
  · refine ⟨0, MD ds, MD ds, ?_, ?_, trivial⟩
    · unfold f_NT_alter; rw [hc.2.2.1, hc.has, if_pos rfl]
    · unfold f_MO_alter
      rw [hm.2.2.2.2]
      by_cases ha : a < 0
      · rw [if_pos ha]
      · rw [if_neg ha, if_neg ha]
  · have e1 : f_NT_cut (GD ds) x (MD ds) = (0, MD ds) := by
      unfold f_NT_cut
      rw [hc.2.2.1, hc.2.2.2.2.2.1, if_pos (by decide)]
    rw [e1]
    refine ⟨?_, trivial⟩
    unfold f_MO_cut
    dsimp only
    rw [hm.2.2.2.2, if_pos rfl]
    simp only [st]
    rw [gi_si, if_pos ⟨rfl, rfl⟩]
  · obtain ⟨M1, e1⟩ := hc.verify (w := w) (a := a) (c := c)
    obtain ⟨M2, e2⟩ := (hm.agr (fo_NT_verify x w a c _ hKx hOx hz e1).1).verify (w := w) (a := a) (c := c)
    exact ⟨0, M1, M2, e1, e2, trivial⟩
end FRESH
theorem pure6 {x k : Nat} {b t : Nat → Nat} {uu : Nat → Nat → Nat} {mo : Nat} {um : Nat → Nat} {xs : Nat → Int32} {Ls : Nat} (hk : 1 ≤ k) (hk3 : k ≤ 3) (hL : Ls ≤ 6) (hn : ∀ (i j : Nat) (p q : De), (dsA x k b t uu mo (nI k) um)[i]? = some p → (dsA x k b t uu mo (nI k) um)[j]? = some q → p.1 = q.1 → i = j) : f_LW_law_28 (GD (dsA x k b t uu mo (nI k) um)) xs Ls FU x mo 1 (MD (dsA x k b t uu mo (nI k) um)) = some () := by
  have e : (1 : Int32) = nI 1 := rfl
  rw [show FU = 4094 + 1 + 1 from rfl, e]
  by_cases h : 1 + 5 ≤ Ls
  · refine law_step h (by omega) (step0 hk hk3 hn) (fun M' _ => ?_)
    rw [show nI 1 + 5 = nI (1 + 5) from nI_add 1 5]
    exact law_done (by omega) (by omega) (by omega)
  · exact law_done (by omega) (by omega) (by omega)
