/-! From the law's entry to its loop; the pure claim is a premise here. -/
theorem t_9 : Cond.classLink "NibbleTrieLaw" 7 "NibbleTrie" ∈ tG := tg_of (i := 9) (by decide +kernel) (by decide +kernel)
theorem t_406 : Cond.classLink "NibbleTrieLaw" 18 "NibbleTrieModel" ∈ tG := tg_of (i := 406) (by decide +kernel) (by decide +kernel)
theorem t_11 : Cond.methodLink "NibbleTrieLaw" 15 ⟨"NibbleTrie", "<init>", "(I)V"⟩ ∈ tG := tg_of (i := 11) (by decide +kernel) (by decide +kernel)
theorem t_408 : Cond.methodLink "NibbleTrieLaw" 20 ⟨"NibbleTrieModel", "<init>", "(I)V"⟩ ∈ tG := tg_of (i := 408) (by decide +kernel) (by decide +kernel)
theorem kept_k (v : Int32) : ∃ k : Nat, 1 ≤ k ∧ k ≤ 3 ∧ imax 1 (imin 3 v) = nI k ∧ (if v < 1 then 1 else if 3 < v then 3 else v) = nI k := by
  by_cases h1 : v < 1
  · refine ⟨1, by omega, by omega, ?_, by rw [if_pos h1]; rfl⟩
    have h3 : v < 3 := Int32.lt_of_lt_of_le h1 (by decide)
    unfold imax imin
    rw [if_pos h3, if_neg (Int32.not_lt.mpr (Int32.le_of_lt h1))]
    rfl
  · by_cases h2 : 3 < v
    · refine ⟨3, by omega, by omega, ?_, by rw [if_neg h1, if_pos h2]; rfl⟩
      unfold imax imin
      rw [if_neg (Int32.not_lt.mpr (Int32.le_of_lt h2)), if_pos (by decide)]
      rfl
    · have a1 := Int32.not_lt.mp h1
      have a2 := Int32.not_lt.mp h2
      rw [Int32.le_iff_toInt_le] at a1 a2
      have b1 : (1 : Int32).toInt = 1 := by decide
      have b2 : (3 : Int32).toInt = 3 := by decide
      have hv : v = nI v.toInt.toNat := by
        apply Int32.toInt_inj.mp
        rw [nI_toInt (by omega)]
        omega
      refine ⟨v.toInt.toNat, by omega, by omega, ?_, by rw [if_neg h1, if_neg h2]; exact hv⟩
      rw [← hv]
      unfold imax imin
      by_cases c1 : v < 3
      · rw [if_pos c1]
        by_cases c2 : 1 < v
        · rw [if_pos c2]
        · rw [if_neg c2]
          exact Int32.le_antisymm (Int32.not_lt.mp h1) (Int32.not_lt.mp c2)
      · rw [if_neg c1, if_pos (by decide)]
        exact Int32.le_antisymm (Int32.not_lt.mp c1) (Int32.not_lt.mp h2)
theorem va_AOA.of {t : FieldType} {A : Array Value} {U : State} (h : (Cond.arrayOver (.array t)).before A U = true) : va_AOA t U := h
/-- what is left of the claim: the two sides answer alike, over a memory alone -/
def PureLaw : Prop := ∀ (x k : Nat) (b t : Nat → Nat) (uu : Nat → Nat → Nat) (mo : Nat) (um : Nat → Nat) (xs : Nat → Int32) (Ls : Nat), 1 ≤ k → k ≤ 3 → Ls ≤ 6 → (∀ (i j : Nat) (p q : De), (dsA x k b t uu mo (nI k) um)[i]? = some p → (dsA x k b t uu mo (nI k) um)[j]? = some q → p.1 = q.1 → i = j) → f_LW_law_28 (GD (dsA x k b t uu mo (nI k) um)) xs Ls FU x mo 1 (MD (dsA x k b t uu mo (nI k) um)) = some ()
section INV
variable {x k : Nat} {b t : Nat → Nat} {uu : Nat → Nat → Nat} {mo : Nat} {v : Int32} {um : Nat → Nat}
theorem in_mo {d : De} (h : d ∈ dsMO mo v um) : d ∈ dsA x k b t uu mo v um := List.mem_append_left _ h
theorem in_tr {d : De} {j : Nat} (hj : j < k + 1) (h : d ∈ dsTR (t j) (uu j)) : d ∈ dsA x k b t uu mo v um := List.mem_append_right _ (List.mem_append_right _ (List.mem_flatMap.mpr ⟨j, List.mem_range.mpr hj, h⟩))
theorem in_nt {d : De} {i : Nat} (h : ([(x, 5, 0, (fun _ => 0), (fun _ => 0), (fun j => [t 0, b 0, 0, b 1].getD j 0)), (b 0, 3, k, (fun _ => 0), (fun _ => 0), (fun j => t (j + 1))), (b 1, 8, 0, (fun j => if j = 4 then 1 else 0), (fun _ => 0), (fun j => [b 2].getD j 0)), (b 2, 2, 199, (fun _ => 0), (fun _ => 0), (fun _ => 0))] : List De)[i]? = some d) : d ∈ dsA x k b t uu mo v um := List.mem_append_right _ (List.mem_append_left _ (List.mem_of_getElem? h))
end INV
theorem invA {x k : Nat} {b t : Nat → Nat} {uu : Nat → Nat → Nat} {mo : Nat} {v : Int32} {um : Nat → Nat} (hn : ∀ (i j : Nat) (p q : De), (dsA x k b t uu mo v um)[i]? = some p → (dsA x k b t uu mo v um)[j]? = some q → p.1 = q.1 → i = j) : Inv (KD (dsA x k b t uu mo v um)) (GD (dsA x k b t uu mo v um)) ((dsA x k b t uu mo v um).map Prod.fst) (MD (dsA x k b t uu mo v um)).2.2 := by
  generalize hds : dsA x k b t uu mo v um = ds at hn
  have lk : ∀ d : De, d ∈ dsA x k b t uu mo v um → look ds d.1 = d.2 := fun d hd => look_in hn (by rw [← hds]; exact hd)
  have kd : ∀ d : De, d ∈ dsA x k b t uu mo v um → KD ds d.1 = d.2.1 := fun d hd => by unfold KD; rw [lk d hd]
  -- a cell that is there is one of the list
  have back : ∀ a : Nat, KD ds a ≠ 0 → ∃ d : De, d ∈ dsA x k b t uu mo v um ∧ d.1 = a ∧ look ds a = d.2 := fun a ha => by
    unfold KD look at ha
    cases hf : ds.find? (fun z => z.1 == a) with
    | none => rw [hf] at ha; exact absurd rfl ha
    | some z =>
      have h1 : z.1 = a := by simpa using List.find?_some hf
      have h2 : z ∈ ds := List.mem_of_find?_eq_some hf
      refine ⟨z, by rw [hds]; exact h2, h1, ?_⟩
      unfold look
      rw [hf]
  have kT : ∀ j, j < k + 1 → KD ds (t j) = 6 := fun j hj => kd (t j, _) (in_tr hj (List.mem_of_getElem? (i := 0) rfl))
  have kU : ∀ j, j < k + 1 → ∀ (i : Nat) (d : De), (dsTR (t j) (uu j))[i]? = some d → KD ds d.1 = d.2.1 := fun j hj i d hd => kd d (in_tr hj (List.mem_of_getElem? hd))
  have kM : ∀ (i : Nat) (d : De), (dsMO mo v um)[i]? = some d → KD ds d.1 = d.2.1 := fun i d hd => kd d (in_mo (List.mem_of_getElem? hd))
  have kN : ∀ (i : Nat) (d : De), ([(x, 5, 0, (fun _ => 0), (fun _ => 0), (fun j => [t 0, b 0, 0, b 1].getD j 0)), (b 0, 3, k, (fun _ => 0), (fun _ => 0), (fun j => t (j + 1))), (b 1, 8, 0, (fun j => if j = 4 then 1 else 0), (fun _ => 0), (fun j => [b 2].getD j 0)), (b 2, 2, 199, (fun _ => 0), (fun _ => 0), (fun _ => 0))] : List De)[i]? = some d → KD ds d.1 = d.2.1 := fun i d hd => kd d (in_nt hd)
  have kG : ∀ j, j < k + 1 → ∀ i, i < 4 → KD ds (uu j (9 + i)) = 2 := fun j hj i hi => by
    rcases (show i = 0 ∨ i = 1 ∨ i = 2 ∨ i = 3 by omega) with rfl | rfl | rfl | rfl
    · exact kU j hj 10 _ rfl
    · exact kU j hj 11 _ rfl
    · exact kU j hj 12 _ rfl
    · exact kU j hj 13 _ rfl
  -- of each cell of the list: what its kind asks
  have each : ∀ d : De, d ∈ dsA x k b t uu mo v um → (d.2.1 = 3 → ∀ i, i < d.2.2.1 → KD ds (d.2.2.2.2.2 i) = 6) ∧ (d.2.1 = 4 → ∀ i, i < d.2.2.1 → KD ds (d.2.2.2.2.2 i) = 2) ∧ (d.2.1 = 5 → KD ds (d.2.2.2.2.2 0) = 6 ∧ KD ds (d.2.2.2.2.2 1) = 3 ∧ KD ds (d.2.2.2.2.2 3) = 8) ∧ (d.2.1 = 6 → KD ds (d.2.2.2.2.2 0) = 7 ∧ KD ds (d.2.2.2.2.2 4) = 1 ∧ KD ds (d.2.2.2.2.2 5) = 1 ∧ KD ds (d.2.2.2.2.2 6) = 1 ∧ KD ds (d.2.2.2.2.2 7) = 1 ∧ KD ds (d.2.2.2.2.2 8) = 2 ∧ KD ds (d.2.2.2.2.2 9) = 4) ∧ (d.2.1 = 7 → KD ds (d.2.2.2.2.2 0) = 1 ∧ KD ds (d.2.2.2.2.2 1) = 1) ∧ (d.2.1 = 8 → KD ds (d.2.2.2.2.2 0) = 2) ∧ (d.2.1 = 9 → KD ds (d.2.2.2.2.2 0) = 1 ∧ KD ds (d.2.2.2.2.2 1) = 1 ∧ KD ds (d.2.2.2.2.2 2) = 1 ∧ KD ds (d.2.2.2.2.2 5) = 1 ∧ KD ds (d.2.2.2.2.2 6) = 2 ∧ KD ds (d.2.2.2.2.2 7) = 1 ∧ KD ds (d.2.2.2.2.2 8) = 2 ∧ KD ds (d.2.2.2.2.2 10) = 2) := by
    intro d hd
    rcases List.mem_append.mp hd with h | h
    · unfold dsMO at h
      simp only [List.mem_cons, List.not_mem_nil, or_false] at h
      rcases h with rfl | rfl | rfl | rfl | rfl | rfl | rfl | rfl | rfl <;> refine ⟨fun q => ?_, fun q => ?_, fun q => ?_, fun q => ?_, fun q => ?_, fun q => ?_, fun q => ?_⟩ <;> first | exact ⟨kM 1 _ rfl, kM 2 _ rfl, kM 3 _ rfl, kM 4 _ rfl, kM 5 _ rfl, kM 6 _ rfl, kM 7 _ rfl, kM 8 _ rfl⟩ | (exfalso; simp at q)
    · rcases List.mem_append.mp h with h | h
      · simp only [List.mem_cons, List.not_mem_nil, or_false] at h
        rcases h with rfl | rfl | rfl | rfl <;> refine ⟨fun q => ?_, fun q => ?_, fun q => ?_, fun q => ?_, fun q => ?_, fun q => ?_, fun q => ?_⟩ <;> first | exact ⟨kT 0 (by omega), kN 1 _ rfl, kN 2 _ rfl⟩ | exact (fun i hi => kT (i + 1) (Nat.succ_lt_succ hi)) | exact kN 3 _ rfl | (exfalso; simp at q)
      · obtain ⟨j, hj, h⟩ := List.mem_flatMap.mp h
        have hj := List.mem_range.mp hj
        unfold dsTR at h
        simp only [List.mem_cons, List.not_mem_nil, or_false] at h
        rcases h with rfl | rfl | rfl | rfl | rfl | rfl | rfl | rfl | rfl | rfl | rfl | rfl | rfl | rfl <;> refine ⟨fun q => ?_, fun q => ?_, fun q => ?_, fun q => ?_, fun q => ?_, fun q => ?_, fun q => ?_⟩ <;> first | exact ⟨kU j hj 1 _ rfl, kU j hj 4 _ rfl, kU j hj 5 _ rfl, kU j hj 6 _ rfl, kU j hj 7 _ rfl, kU j hj 8 _ rfl, kU j hj 9 _ rfl⟩ | exact ⟨kU j hj 2 _ rfl, kU j hj 3 _ rfl⟩ | exact (fun i hi => kG j hj i hi) | (exfalso; simp at q)
  have use : ∀ a n : Nat, n ≠ 0 → KD ds a = n → ∃ d : De, d ∈ dsA x k b t uu mo v um ∧ d.2.1 = n ∧ GD ds a = d.2.2.1 ∧ (MD ds).2.2 a = d.2.2.2.2.2 := fun a n h0 hk => by
    obtain ⟨d, h1, h2, h3⟩ := back a (by rw [hk]; exact h0)
    exact ⟨d, h1, by rw [← hk]; unfold KD; rw [h3], by unfold GD; rw [h3], by show (look ds a).2.2.2.2 = _; rw [h3]⟩
  refine ⟨fun a ha => ?_, fun a ha i hi => ?_, fun a ha i hi => ?_, fun a ha => ?_, fun a ha => ?_, fun a ha => ?_, fun a ha => ?_, fun a ha => ?_⟩
  · obtain ⟨d, h1, h2, -⟩ := back a ha
    exact List.mem_map.mpr ⟨d, by rw [← hds]; exact h1, h2⟩
  · obtain ⟨d, h1, h2, h3, h4⟩ := use a 3 (by decide) ha
    rw [h4]; rw [h3] at hi; exact (each d h1).1 h2 i hi
  · obtain ⟨d, h1, h2, h3, h4⟩ := use a 4 (by decide) ha
    rw [h4]; rw [h3] at hi; exact (each d h1).2.1 h2 i hi
  · obtain ⟨d, h1, h2, h3, h4⟩ := use a 5 (by decide) ha
    rw [h4]; exact (each d h1).2.2.1 h2
  · obtain ⟨d, h1, h2, h3, h4⟩ := use a 6 (by decide) ha
    rw [h4]; exact (each d h1).2.2.2.1 h2
  · obtain ⟨d, h1, h2, h3, h4⟩ := use a 7 (by decide) ha
    rw [h4]; exact (each d h1).2.2.2.2.1 h2
  · obtain ⟨d, h1, h2, h3, h4⟩ := use a 8 (by decide) ha
    rw [h4]; exact (each d h1).2.2.2.2.2.1 h2
  · obtain ⟨d, h1, h2, h3, h4⟩ := use a 9 (by decide) ha
    rw [h4]; exact (each d h1).2.2.2.2.2.2 h2
set_option maxHeartbeats 4000000 in
set_option maxRecDepth 100000 in
theorem start_of (hpure : PureLaw) {p : Program} {e : Env} {s : State} {m : MethodId} {below : List Frame} {meth : Method} {c : Code} (l : Launch) {b Ls : Nat} {xs : Nat → Int32} (hL : Ls ≤ 6) (C0 : lw_At p s m meth c b Ls xs) : W p l e room_1 s m #[Value.ref b] below meth c s.heap [] 0 0 (lw_Z below #[Value.ref b] s) (entryFrame m ([Value.ref b] : List Value).toArray 4) := by
  obtain ⟨hx, hb, hr, hml, hown, htb, hXs, hbl, hlk, -⟩ := C0
  have htG : ∀ w ∈ tG, w.before #[Value.ref b] s = true := fun w h => htb w (List.mem_filter.mp h).1
  have hts : ∀ w ∈ Cond.initialized "NibbleTrieLaw" :: tG, w.before #[Value.ref b] s = true := fun w h => by
    rcases List.mem_cons.mp h with rfl | h
    · exact htG _ t_0
    · exact htG w h
  have hX : CallFix p m c b_LW_law 4 s #[Value.ref b] (Cond.initialized "NibbleTrieLaw" :: tG) "NibbleTrieLaw" := ⟨hx, hb, hml, hown, hts⟩
  have hNW : NWs s := ⟨va_Nw.of rfl (htb _ (List.mem_append_right _ (List.mem_of_getElem? (i := 19) (by decide +kernel)))), va_Nw.of rfl (htb _ (List.mem_append_right _ (List.mem_of_getElem? (i := 25) (by decide +kernel)))), va_Nw.of rfl (htb _ (List.mem_append_right _ (List.mem_of_getElem? (i := 85) (by decide +kernel)))), va_Nw.of rfl (htb _ (List.mem_append_right _ (List.mem_of_getElem? (i := 244) (by decide +kernel)))), va_Nw.of rfl (htb _ (List.mem_append_right _ (List.mem_of_getElem? (i := 385) (by decide +kernel))))⟩
  have hAO : AOs s := ⟨va_AO.of (htb _ (List.mem_append_right _ (List.mem_of_getElem? (i := 122) (by decide +kernel)))), va_AOA.of (htb _ (List.mem_append_right _ (List.mem_of_getElem? (i := 45) (by decide +kernel))))⟩
  obtain ⟨E, hK⟩ := en_ex htG hAO
  have hA : ∀ q : Nat, s.heap.size ≤ q → (fun q => s.heap.size ≤ q) q := fun _ h => h
  have hbA : ¬ (fun q : Nat => s.heap.size ≤ q) b := fun h => by have h : s.heap.size ≤ b := h; omega
  have hw : Xd E [] (fun q => s.heap.size ≤ q) s.heap s.heap [] s := ⟨fun k q hk => (by cases hk), ⟨fun i j p q hi => (by cases hi), fun k q hk => (by cases hk)⟩, va_S.rf, hK, hA, hNW, hAO⟩
  have hl := lv_entry ([.ref b]) (n := 4) (Nat.le_of_ble_eq_true rfl)
  rw [lg_entry_eq]
  generalize (lg_sl ([.ref b]) ++ List.replicate (4 - (lg_sl ([.ref b])).length) Slot.unset).toArray = ls at hl ⊢
  have hl : lv_has ls 4 [(0, .ref b)] := hl
  obtain ⟨k, hk1, hk3, hkv, hkm⟩ := kept_k (if Int32.ofNat Ls ≤ 0 then 0 else xs 0)
  refine x_new hX 3 in_NT T_NT T_NT_ok t_9 t_10 t_1 hw rfl [.null, .null, .int 0, .null] (by intro j hj; rcases (show j = 0 ∨ j = 1 ∨ j = 2 ∨ j = 3 by omega) with rfl | rfl | rfl | rfl <;> rfl) (Nat.le_of_ble_eq_true rfl) (Nat.le_of_ble_eq_true rfl) d_LW_law_0 (fun x H hw => ?_)
  have hw : Xd E (rawNT x) (fun q => s.heap.size ≤ q) s.heap H _ s := hw
  refine lv_dup hx hb d_LW_law_3 rfl ?_
  refine lv_aload_n hx hb d_LW_law_4 rfl (lv_at hl 0 rfl) ?_
  refine lv_iconst (v := 0) hx hb d_LW_law_5 (by decide) ?_
  refine kp_iL (va_runS (As := [.ref b, .int 0]) (rest := [.ref x, .ref x]) hX (m_LW_cell l b Ls xs) (cb_LW_cell hts t_403 ⟨(Nat.le_of_ble_eq_true rfl), (Nat.le_of_ble_eq_true rfl)⟩) (preX hXs hbl hbA hw.2.2.1) rfl rfl hl.1 rfl (lv_room (Nat.le_of_ble_eq_true rfl)) d_LW_law_6 ⟨(Nat.le_of_ble_eq_true rfl), (Nat.le_of_ble_eq_true rfl)⟩) ?_
  have hF := va_free (wc := rawNT x) hw.2.1 hw.2.2.1 hw.2.2.2.2.1 [0] rfl
  refine va_callv (va_runI (As := [.int (if Int32.ofNat Ls ≤ 0 then 0 else xs 0)]) (rest := [.ref x]) hX (m_NT_init l x k _ hkv hk1 hk3) (cb_NT_init hts t_11 ⟨(Nat.le_of_ble_eq_true rfl), (Nat.le_of_ble_eq_true rfl)⟩) (hw.pre [0] rfl rfl rfl) rfl rfl hl.1 rfl (lv_room (Nat.le_of_ble_eq_true rfl)) d_LW_law_9 ⟨(Nat.le_of_ble_eq_true rfl), (Nat.le_of_ble_eq_true rfl)⟩) hw.2.2.1 (fun q _ h => hF q h) hF (fun u9 t9 H9 locs9 ht9 _ _ hB9 _ hk9 hS9 => ?_)
  obtain ⟨b9, t9', uu9⟩ := u9
  obtain ⟨hP1, hD1⟩ := hB9
  rw [ht9] at hP1
  obtain ⟨hP, hD⟩ := va_join (wr := []) (w1 := NTl E x k b9 t9' uu9) hw.1 hw.2.1 [0] [] rfl rfl (by decide) (by decide) hk9 hF hP1 hD1
  have hw : Xd E ([] ++ NTl E x k b9 t9' uu9) (fun q => s.heap.size ≤ q) s.heap H9 locs9 s := ⟨hP, hD, hS9, hw.2.2.2⟩
  refine lv_astore_n (lv' := [(1, .ref x), (0, .ref b)]) hx hb d_LW_law_12 rfl hl (by decide) rfl (fun ls hl => ?_)
  refine x_new hX 4 in_MO T_MO T_MO_ok t_406 t_407 t_6 hw rfl [.null, .null, .null, .int 0, .int 0, .null, .null, .null, .null, .int 0, .null, .int 0, .int 0, .long 0, .long 0, .int 0, .int 0] (by intro j hj; rcases (show j = 0 ∨ j = 1 ∨ j = 2 ∨ j = 3 ∨ j = 4 ∨ j = 5 ∨ j = 6 ∨ j = 7 ∨ j = 8 ∨ j = 9 ∨ j = 10 ∨ j = 11 ∨ j = 12 ∨ j = 13 ∨ j = 14 ∨ j = 15 ∨ j = 16 by omega) with rfl | rfl | rfl | rfl | rfl | rfl | rfl | rfl | rfl | rfl | rfl | rfl | rfl | rfl | rfl | rfl | rfl <;> rfl) (Nat.le_of_ble_eq_true rfl) (Nat.le_of_ble_eq_true rfl) d_LW_law_13 (fun mo H hw => ?_)
  have hw := hw.swap
  have hw : Xd E (rawMO mo ++ NTl E x k b9 t9' uu9) (fun q => s.heap.size ≤ q) s.heap H _ s := hw
  refine lv_dup hx hb d_LW_law_16 rfl ?_
  refine lv_aload_n hx hb d_LW_law_17 rfl (lv_at hl 1 rfl) ?_
  refine lv_iconst (v := 0) hx hb d_LW_law_18 (by decide) ?_
  refine kp_iL (va_runS (As := [.ref b, .int 0]) (rest := [.ref mo, .ref mo]) hX (m_LW_cell l b Ls xs) (cb_LW_cell hts t_403 ⟨(Nat.le_of_ble_eq_true rfl), (Nat.le_of_ble_eq_true rfl)⟩) (preX hXs hbl hbA hw.2.2.1) rfl rfl hl.1 rfl (lv_room (Nat.le_of_ble_eq_true rfl)) d_LW_law_19 ⟨(Nat.le_of_ble_eq_true rfl), (Nat.le_of_ble_eq_true rfl)⟩) ?_
  refine x_callQ (ws := rawMO mo) (wr := []) (va_runI (As := [.int (if Int32.ofNat Ls ≤ 0 then 0 else xs 0)]) (rest := [.ref mo]) hX (m_MO_init l mo _) (cb_MO_init hts t_408 ⟨(Nat.le_of_ble_eq_true rfl), (Nat.le_of_ble_eq_true rfl)⟩) (hw.pre [0] rfl rfl rfl) rfl rfl hl.1 rfl (lv_room (Nat.le_of_ble_eq_true rfl)) d_LW_law_22 ⟨(Nat.le_of_ble_eq_true rfl), (Nat.le_of_ble_eq_true rfl)⟩) hw [0] [] rfl rfl rfl (by decide) (by decide) (fun um H locs hw => ?_)
  rw [hkm] at hw
  have hw : Xd E (MOl E mo (nI k) um ++ NTl E x k b9 t9' uu9) (fun q => s.heap.size ≤ q) s.heap H locs s := hw
  have hw := pcell (q0 := 10) (e2 := .inl (E.2.2.2.1, k, .inr (.inr (.inr (.inr (fun j => some (t9' (j + 1)))))))) hw rfl (fun h => by
    show H[b9 0]? = some (vp_cell _ _)
    rw [← arr_same (f := fun j => if j < k then some (t9' (j + 1)) else none) (fun j hj => if_pos hj)]
    exact h)
  have hw : Xd E (dsW E (dsA x k b9 t9' uu9 mo (nI k) um)) (fun q => s.heap.size ≤ q) s.heap H locs s := hw.to (by
    unfold dsA dsNT
    rw [dsW_app, dsW_app, dsW_flt]
    rfl)
  obtain ⟨hpl, hn⟩ := pool_of (A := fun q => s.heap.size ≤ q) (B := fun _ => True) hw
  have hp := hpure x k b9 t9' uu9 mo um xs Ls hk1 hk3 hL hn
  have hI := invA hn
  have hKx : KD (dsA x k b9 t9' uu9 mo (nI k) um) x = 5 := by
    have h := look_in hn (in_nt (x := x) (k := k) (b := b9) (t := t9') (uu := uu9) (mo := mo) (v := nI k) (um := um) (i := 0) rfl)
    unfold KD
    rw [h]
  have hKm : KD (dsA x k b9 t9' uu9 mo (nI k) um) mo = 9 := by
    have h := look_in hn (in_mo (x := x) (k := k) (b := b9) (t := t9') (uu := uu9) (mo := mo) (v := nI k) (um := um) (List.mem_of_getElem? (i := 0) rfl))
    unfold KD
    rw [h]
  generalize dsA x k b9 t9' uu9 mo (nI k) um = ds at hw hpl hn hp hI hKx hKm
  have hfr : ∀ q ∈ ds.map Prod.fst, s.heap.size ≤ q := fun q hq => by
    obtain ⟨d, hd, rfl⟩ := List.mem_map.mp hq
    obtain ⟨i, hi⟩ := List.getElem?_of_mem hd
    exact hw.2.1.2 i (d.1, encd E d.2) (by unfold dsW; rw [List.getElem?_map, hi]; rfl)
  have hWd : Wd E (KD ds) (GD ds) (ds.map Prod.fst) (MD ds) s.heap H locs s := by
    refine ⟨by rw [hpl]; exact hw.1, by rw [hpl]; exact hw.2.1.weaken (fun _ _ _ h => Or.inr h), ⟨hw.2.2.1.1, fun q h1 h2 => hw.2.2.1.2.1 q h1 (fun z => h2 (Or.inr z)), fun q hq => Or.inr (hw.2.2.1.2.2 q hq)⟩, hw.2.2.2.1, hI, hw.2.2.2.2.2.1⟩
  refine W.widen (k := 600000) (n := 7302250) (Nat.le_of_ble_eq_true rfl) (Nat.le_of_ble_eq_true rfl) ?_
  refine lv_astore_n (lv' := [(2, .ref mo), (1, .ref x), (0, .ref b)]) hx hb d_LW_law_25 rfl hl (by decide) rfl (fun ls hl => ?_)
  refine lv_iconst (v := 1) hx hb d_LW_law_26 (by decide) ?_
  refine lv_istore_n (lv' := [(3, .int 1), (2, .ref mo), (1, .ref x), (0, .ref b)]) hx hb d_LW_law_27 rfl hl (by decide) rfl (fun ls hl => ?_)
  exact w_LW_law_28 hX hr hlk ⟨hXs, hbl, hfr⟩ FU x mo 1 (MD ds) _ _ _ hKx hKm (lv_sub hl [3, 2, 1, 0] rfl) hWd hp
