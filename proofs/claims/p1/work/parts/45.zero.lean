/-! The fresh memory: two sides apart. -/
noncomputable def OD (mo : Nat) (um : Nat → Nat) (a : Nat) : Nat := @ite Nat (a = mo ∨ (∃ j, j < 8 ∧ a = um j)) (Classical.propDecidable _) 2 1
section ZERO
variable {x k : Nat} {b t : Nat → Nat} {uu : Nat → Nat → Nat} {mo : Nat} {v : Int32} {um : Nat → Nat}
theorem OD_mo : OD mo um mo = 2 := by unfold OD; exact if_pos (Or.inl rfl)
theorem OD_um {j : Nat} (h : j < 8) : OD mo um (um j) = 2 := by unfold OD; exact if_pos (Or.inr ⟨j, h, rfl⟩)
theorem mo_len : (dsMO mo v um).length = 9 := rfl
theorem nt_at {i : Nat} : (dsA x k b t uu mo v um)[9 + i]? = (dsNT x k b t uu)[i]? := by
  unfold dsA
  rw [List.getElem?_append_right (by rw [mo_len]; omega), mo_len, Nat.add_sub_cancel_left]
theorem OD_nt (hn : ∀ (i j : Nat) (p q : De), (dsA x k b t uu mo v um)[i]? = some p → (dsA x k b t uu mo v um)[j]? = some q → p.1 = q.1 → i = j) {d : De} (h : d ∈ dsNT x k b t uu) : OD mo um d.1 = 1 := by
  obtain ⟨i, hi⟩ := List.getElem?_of_mem h
  rw [← nt_at (mo := mo) (v := v) (um := um)] at hi
  unfold OD
  refine if_neg (fun q => ?_)
  rcases q with q | ⟨j, hj, q⟩
  · have := hn (9 + i) 0 d _ hi rfl q
    omega
  · rcases (show j = 0 ∨ j = 1 ∨ j = 2 ∨ j = 3 ∨ j = 4 ∨ j = 5 ∨ j = 6 ∨ j = 7 by omega) with rfl | rfl | rfl | rfl | rfl | rfl | rfl | rfl
    · have := hn (9 + i) 1 d _ hi rfl q; omega
    · have := hn (9 + i) 2 d _ hi rfl q; omega
    · have := hn (9 + i) 3 d _ hi rfl q; omega
    · have := hn (9 + i) 4 d _ hi rfl q; omega
    · have := hn (9 + i) 5 d _ hi rfl q; omega
    · have := hn (9 + i) 6 d _ hi rfl q; omega
    · have := hn (9 + i) 7 d _ hi rfl q; omega
    · have := hn (9 + i) 8 d _ hi rfl q; omega
theorem nt_b {d : De} {i : Nat} (h : ([(x, 5, 0, (fun _ => 0), (fun _ => 0), (fun j => [t 0, b 0, 0, b 1].getD j 0)), (b 0, 3, k, (fun _ => 0), (fun _ => 0), (fun j => t (j + 1))), (b 1, 8, 0, (fun j => if j = 4 then 1 else 0), (fun _ => 0), (fun j => [b 2].getD j 0)), (b 2, 2, 199, (fun _ => 0), (fun _ => 0), (fun _ => 0))] : List De)[i]? = some d) : d ∈ dsNT x k b t uu := List.mem_append_left _ (List.mem_of_getElem? h)
theorem nt_t {d : De} {i j : Nat} (hj : j < k + 1) (h : (dsTR (t j) (uu j))[i]? = some d) : d ∈ dsNT x k b t uu := List.mem_append_right _ (List.mem_flatMap.mpr ⟨j, List.mem_range.mpr hj, List.mem_of_getElem? h⟩)
theorem ziA (hn : ∀ (i j : Nat) (p q : De), (dsA x k b t uu mo v um)[i]? = some p → (dsA x k b t uu mo v um)[j]? = some q → p.1 = q.1 → i = j) : ZI (KD (dsA x k b t uu mo v um)) (GD (dsA x k b t uu mo v um)) (OD mo um) ((dsA x k b t uu mo v um).map Prod.fst) (MD (dsA x k b t uu mo v um)) := by
  refine ⟨invA hn, ?_⟩
  have oB : ∀ (i : Nat) (d : De), ([(x, 5, 0, (fun _ => 0), (fun _ => 0), (fun j => [t 0, b 0, 0, b 1].getD j 0)), (b 0, 3, k, (fun _ => 0), (fun _ => 0), (fun j => t (j + 1))), (b 1, 8, 0, (fun j => if j = 4 then 1 else 0), (fun _ => 0), (fun j => [b 2].getD j 0)), (b 2, 2, 199, (fun _ => 0), (fun _ => 0), (fun _ => 0))] : List De)[i]? = some d → OD mo um d.1 = 1 := fun i d hd => OD_nt hn (nt_b hd)
  have oT : ∀ j, j < k + 1 → ∀ (i : Nat) (d : De), (dsTR (t j) (uu j))[i]? = some d → OD mo um d.1 = 1 := fun j hj i d hd => OD_nt hn (nt_t hj hd)
  have oG : ∀ j, j < k + 1 → ∀ i, i < 4 → OD mo um (uu j (9 + i)) = 1 := fun j hj i hi => by
    rcases (show i = 0 ∨ i = 1 ∨ i = 2 ∨ i = 3 by omega) with rfl | rfl | rfl | rfl
    · exact oT j hj 10 _ rfl
    · exact oT j hj 11 _ rfl
    · exact oT j hj 12 _ rfl
    · exact oT j hj 13 _ rfl
  generalize hds : dsA x k b t uu mo v um = ds at hn
  have back : ∀ a n : Nat, n ≠ 0 → KD ds a = n → ∃ d : De, d ∈ dsA x k b t uu mo v um ∧ d.1 = a ∧ d.2.1 = n ∧ GD ds a = d.2.2.1 ∧ (MD ds).2.2 a = d.2.2.2.2.2 := fun a n h0 ha => by
    have ha0 : KD ds a ≠ 0 := by rw [ha]; exact h0
    unfold KD look at ha0
    cases hf : ds.find? (fun z => z.1 == a) with
    | none => rw [hf] at ha0; exact absurd rfl ha0
    | some z =>
      have h1 : z.1 = a := by simpa using List.find?_some hf
      have h2 : z ∈ ds := List.mem_of_find?_eq_some hf
      have hl : look ds a = z.2 := by unfold look; rw [hf]
      exact ⟨z, by rw [hds]; exact h2, h1, by rw [← ha]; unfold KD; rw [hl], by unfold GD; rw [hl], by show (look ds a).2.2.2.2 = _; rw [hl]⟩
  have each : ∀ d : De, d ∈ dsA x k b t uu mo v um → (d.2.1 = 3 → ∀ i, i < d.2.2.1 → OD mo um (d.2.2.2.2.2 i) = OD mo um d.1) ∧ (d.2.1 = 4 → ∀ i, i < d.2.2.1 → OD mo um (d.2.2.2.2.2 i) = OD mo um d.1) ∧ (d.2.1 = 5 → OD mo um (d.2.2.2.2.2 0) = OD mo um d.1 ∧ OD mo um (d.2.2.2.2.2 1) = OD mo um d.1 ∧ OD mo um (d.2.2.2.2.2 3) = OD mo um d.1) ∧ (d.2.1 = 6 → OD mo um (d.2.2.2.2.2 0) = OD mo um d.1 ∧ OD mo um (d.2.2.2.2.2 4) = OD mo um d.1 ∧ OD mo um (d.2.2.2.2.2 5) = OD mo um d.1 ∧ OD mo um (d.2.2.2.2.2 6) = OD mo um d.1 ∧ OD mo um (d.2.2.2.2.2 7) = OD mo um d.1 ∧ OD mo um (d.2.2.2.2.2 8) = OD mo um d.1 ∧ OD mo um (d.2.2.2.2.2 9) = OD mo um d.1) ∧ (d.2.1 = 7 → OD mo um (d.2.2.2.2.2 0) = OD mo um d.1 ∧ OD mo um (d.2.2.2.2.2 1) = OD mo um d.1) ∧ (d.2.1 = 8 → OD mo um (d.2.2.2.2.2 0) = OD mo um d.1) ∧ (d.2.1 = 9 → OD mo um (d.2.2.2.2.2 0) = OD mo um d.1 ∧ OD mo um (d.2.2.2.2.2 1) = OD mo um d.1 ∧ OD mo um (d.2.2.2.2.2 2) = OD mo um d.1 ∧ OD mo um (d.2.2.2.2.2 5) = OD mo um d.1 ∧ OD mo um (d.2.2.2.2.2 6) = OD mo um d.1 ∧ OD mo um (d.2.2.2.2.2 7) = OD mo um d.1 ∧ OD mo um (d.2.2.2.2.2 8) = OD mo um d.1 ∧ OD mo um (d.2.2.2.2.2 10) = OD mo um d.1) := by
    intro d hd
    rcases List.mem_append.mp hd with h | h
    · unfold dsMO at h
      simp only [List.mem_cons, List.not_mem_nil, or_false] at h
      have hu : ∀ j, j < 8 → OD mo um (um j) = OD mo um mo := fun j hj => (OD_um hj).trans OD_mo.symm
      rcases h with rfl | rfl | rfl | rfl | rfl | rfl | rfl | rfl | rfl <;> refine ⟨fun q => ?_, fun q => ?_, fun q => ?_, fun q => ?_, fun q => ?_, fun q => ?_, fun q => ?_⟩ <;> first | exact ⟨hu 0 (by omega), hu 1 (by omega), hu 2 (by omega), hu 3 (by omega), hu 4 (by omega), hu 5 (by omega), hu 6 (by omega), hu 7 (by omega)⟩ | (exfalso; simp at q)
    · have hd1 : OD mo um d.1 = 1 := OD_nt (by rw [hds]; exact hn) h
      rw [hd1]
      rcases List.mem_append.mp h with h | h
      · simp only [List.mem_cons, List.not_mem_nil, or_false] at h
        rcases h with rfl | rfl | rfl | rfl <;> refine ⟨fun q => ?_, fun q => ?_, fun q => ?_, fun q => ?_, fun q => ?_, fun q => ?_, fun q => ?_⟩ <;> first | exact ⟨oT 0 (by omega) 0 _ rfl, oB 1 _ rfl, oB 2 _ rfl⟩ | exact (fun i hi => oT (i + 1) (Nat.succ_lt_succ hi) 0 _ rfl) | exact oB 3 _ rfl | (exfalso; simp at q)
      · obtain ⟨j, hj, h⟩ := List.mem_flatMap.mp h
        have hj := List.mem_range.mp hj
        unfold dsTR at h
        simp only [List.mem_cons, List.not_mem_nil, or_false] at h
        rcases h with rfl | rfl | rfl | rfl | rfl | rfl | rfl | rfl | rfl | rfl | rfl | rfl | rfl | rfl <;> refine ⟨fun q => ?_, fun q => ?_, fun q => ?_, fun q => ?_, fun q => ?_, fun q => ?_, fun q => ?_⟩ <;> first | exact ⟨oT j hj 1 _ rfl, oT j hj 4 _ rfl, oT j hj 5 _ rfl, oT j hj 6 _ rfl, oT j hj 7 _ rfl, oT j hj 8 _ rfl, oT j hj 9 _ rfl⟩ | exact ⟨oT j hj 2 _ rfl, oT j hj 3 _ rfl⟩ | exact (fun i hi => oG j hj i hi) | (exfalso; simp at q)
  refine ⟨fun a ha i hi => ?_, fun a ha i hi => ?_, fun a ha => ?_, fun a ha => ?_, fun a ha => ?_, fun a ha => ?_, fun a ha => ?_⟩
  · obtain ⟨d, h1, rfl, h2, h3, h4⟩ := back a 3 (by decide) ha
    rw [h4]; rw [h3] at hi; exact (each d h1).1 h2 i hi
  · obtain ⟨d, h1, rfl, h2, h3, h4⟩ := back a 4 (by decide) ha
    rw [h4]; rw [h3] at hi; exact (each d h1).2.1 h2 i hi
  · obtain ⟨d, h1, rfl, h2, h3, h4⟩ := back a 5 (by decide) ha
    rw [h4]; exact (each d h1).2.2.1 h2
  · obtain ⟨d, h1, rfl, h2, h3, h4⟩ := back a 6 (by decide) ha
    rw [h4]; exact (each d h1).2.2.2.1 h2
  · obtain ⟨d, h1, rfl, h2, h3, h4⟩ := back a 7 (by decide) ha
    rw [h4]; exact (each d h1).2.2.2.2.1 h2
  · obtain ⟨d, h1, rfl, h2, h3, h4⟩ := back a 8 (by decide) ha
    rw [h4]; exact (each d h1).2.2.2.2.2.1 h2
  · obtain ⟨d, h1, rfl, h2, h3, h4⟩ := back a 9 (by decide) ha
    rw [h4]; exact (each d h1).2.2.2.2.2.2 h2
end ZERO
/-! reads of the fresh memory -/
def ModelR (G : Nat → Nat) (M : Mm) (mo : Nat) (um : Nat → Nat) : Prop := gr M mo 0 = um 0 ∧ gr M mo 1 = um 1 ∧ gr M mo 2 = um 2 ∧ gr M mo 5 = um 3 ∧ gr M mo 6 = um 4 ∧ gr M mo 7 = um 5 ∧ gr M mo 8 = um 6 ∧ gr M mo 10 = um 7 ∧ G (um 0) = 64 ∧ G (um 1) = 64 ∧ G (um 2) = 4 ∧ G (um 3) = 64 ∧ G (um 4) = 64 ∧ G (um 5) = 4 ∧ G (um 6) = 64 ∧ G (um 7) = 256 ∧ um 0 ≠ um 2 ∧ um 1 ≠ um 2 ∧ um 5 ≠ um 2 ∧ um 0 ≠ um 1 ∧ um 0 ≠ um 3 ∧ um 0 ≠ um 5 ∧ um 1 ≠ um 3 ∧ um 1 ≠ um 5 ∧ um 2 ≠ um 3 ∧ um 3 ≠ um 5 ∧ mo ≠ um 0 ∧ mo ≠ um 1 ∧ mo ≠ um 2 ∧ mo ≠ um 3 ∧ mo ≠ um 5 ∧ um 4 ≠ um 6 ∧ um 4 ≠ um 7 ∧ um 6 ≠ um 7 ∧ mo ≠ um 4 ∧ mo ≠ um 6 ∧ mo ≠ um 7
section READ0
variable {x k : Nat} {b t : Nat → Nat} {uu : Nat → Nat → Nat} {mo : Nat} {v : Int32} {um : Nat → Nat}
theorem modelR (hn : ∀ (i j : Nat) (p q : De), (dsA x k b t uu mo v um)[i]? = some p → (dsA x k b t uu mo v um)[j]? = some q → p.1 = q.1 → i = j) : ModelR (GD (dsA x k b t uu mo v um)) (MD (dsA x k b t uu mo v um)) mo um := by
  have lk : ∀ (i : Nat) (d : De), (dsMO mo v um)[i]? = some d → look (dsA x k b t uu mo v um) d.1 = d.2 := fun i d hd => look_in hn (in_mo (List.mem_of_getElem? hd))
  have r : ∀ j, gr (MD (dsA x k b t uu mo v um)) mo j = (look (dsA x k b t uu mo v um) mo).2.2.2.2 j := fun _ => rfl
  have g : ∀ a, GD (dsA x k b t uu mo v um) a = (look (dsA x k b t uu mo v um) a).2.1 := fun _ => rfl
  have ne : ∀ (i j : Nat) (p q : De), (dsMO mo v um)[i]? = some p → (dsMO mo v um)[j]? = some q → i ≠ j → p.1 ≠ q.1 := fun i j p q hi hj hij e => by
    have h1 : (dsA x k b t uu mo v um)[i]? = some p := by
      unfold dsA
      rw [List.getElem?_append_left (List.getElem?_eq_some_iff.mp hi).1]; exact hi
    have h2 : (dsA x k b t uu mo v um)[j]? = some q := by
      unfold dsA
      rw [List.getElem?_append_left (List.getElem?_eq_some_iff.mp hj).1]; exact hj
    exact hij (hn i j p q h1 h2 e)
  have h0 := lk 0 _ rfl
  refine ⟨by rw [r, h0]; rfl, by rw [r, h0]; rfl, by rw [r, h0]; rfl, by rw [r, h0]; rfl, by rw [r, h0]; rfl, by rw [r, h0]; rfl, by rw [r, h0]; rfl, by rw [r, h0]; rfl, by rw [g, lk 1 _ rfl], by rw [g, lk 2 _ rfl], by rw [g, lk 3 _ rfl], by rw [g, lk 4 _ rfl], by rw [g, lk 5 _ rfl], by rw [g, lk 6 _ rfl], by rw [g, lk 7 _ rfl], by rw [g, lk 8 _ rfl], ne 1 3 _ _ rfl rfl (by decide), ne 2 3 _ _ rfl rfl (by decide), ne 6 3 _ _ rfl rfl (by decide), ne 1 2 _ _ rfl rfl (by decide), ne 1 4 _ _ rfl rfl (by decide), ne 1 6 _ _ rfl rfl (by decide), ne 2 4 _ _ rfl rfl (by decide), ne 2 6 _ _ rfl rfl (by decide), ne 3 4 _ _ rfl rfl (by decide), ne 4 6 _ _ rfl rfl (by decide), ne 0 1 _ _ rfl rfl (by decide), ne 0 2 _ _ rfl rfl (by decide), ne 0 3 _ _ rfl rfl (by decide), ne 0 4 _ _ rfl rfl (by decide), ne 0 6 _ _ rfl rfl (by decide), ne 5 7 _ _ rfl rfl (by decide), ne 5 8 _ _ rfl rfl (by decide), ne 7 8 _ _ rfl rfl (by decide), ne 0 5 _ _ rfl rfl (by decide), ne 0 7 _ _ rfl rfl (by decide), ne 0 8 _ _ rfl rfl (by decide)⟩
end READ0
