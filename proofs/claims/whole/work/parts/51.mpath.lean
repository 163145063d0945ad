/-! The reference's path arithmetic; which numbers are paths. -/
theorem lgc_lt {x y : Int64} : lg_cmp x y < 0 ↔ x.toInt < y.toInt := by
  unfold lg_cmp
  rw [← Int64.lt_iff_toInt_lt]
  by_cases h1 : y < x
  · rw [if_pos h1]
    refine ⟨fun h => absurd h (by decide), fun h => ?_⟩
    rw [Int64.lt_iff_toInt_lt] at h1 h
    omega
  · rw [if_neg h1]
    by_cases h2 : x = y
    · rw [if_pos h2]
      subst h2
      exact ⟨fun h => absurd h (by decide), fun h => absurd h h1⟩
    · rw [if_neg h2]
      refine ⟨fun _ => ?_, fun _ => by decide⟩
      rw [Int64.lt_iff_toInt_lt] at h1 ⊢
      have : x.toInt ≠ y.toInt := fun e => h2 (Int64.toInt_inj.mp e)
      omega
theorem lgc_gt {x y : Int64} : 0 < lg_cmp x y ↔ y.toInt < x.toInt := by
  unfold lg_cmp
  by_cases h1 : y < x
  · rw [if_pos h1]
    exact ⟨fun _ => Int64.lt_iff_toInt_lt.mp h1, fun _ => by decide⟩
  · rw [if_neg h1]
    rw [Int64.lt_iff_toInt_lt] at h1
    by_cases h2 : x = y
    · rw [if_pos h2]
      exact ⟨fun h => absurd h (by decide), fun h => absurd h h1⟩
    · rw [if_neg h2]
      exact ⟨fun h => absurd h (by decide), fun h => absurd h h1⟩
theorem lgc_le {x y : Int64} : lg_cmp x y ≤ 0 ↔ x.toInt ≤ y.toInt := by
  have h : lg_cmp x y ≤ 0 ↔ ¬ 0 < lg_cmp x y := by rw [Int32.not_lt]
  rw [h, lgc_gt]
  omega
theorem lgc_ge {x y : Int64} : 0 ≤ lg_cmp x y ↔ y.toInt ≤ x.toInt := by
  have h : 0 ≤ lg_cmp x y ↔ ¬ lg_cmp x y < 0 := by rw [Int32.not_lt]
  rw [h, lgc_lt]
  omega
theorem lgc_eq {x y : Int64} : lg_cmp x y = 0 ↔ x.toInt = y.toInt := by rw [lg_eq, Int64.toInt_inj]
/-- which whole numbers are numbers of paths -/
def isP (z : Int) : Prop := z = 1 ∨ (16 ≤ z ∧ z < 32) ∨ (256 ≤ z ∧ z < 512) ∨ (4096 ≤ z ∧ z < 8192) ∨ (65536 ≤ z ∧ z < 131072)
theorem isP_of {p : List Nat} (h : nb p) : isP (num p : Int) := by
  have h1 := num_lo p
  have h2 := num_hi h.2
  have hl := h.1
  unfold isP
  rcases (show p.length = 0 ∨ p.length = 1 ∨ p.length = 2 ∨ p.length = 3 ∨ p.length = 4 by omega) with e | e | e | e | e <;> rw [e] at h1 h2 <;> omega
theorem path_of {n : Nat} (h : isP (n : Int)) : ∃ p, nb p ∧ num p = n := by
  unfold isP at h
  have go : ∀ k, k ≤ 4 → 16 ^ k ≤ n → n < 2 * 16 ^ k → ∃ p, nb p ∧ num p = n := fun k hk h1 h2 => by
    obtain ⟨a, b, c⟩ := toP_ok k n h1 h2
    exact ⟨toP k n, ⟨by omega, b⟩, c⟩
  rcases h with h | h | h | h | h
  · exact go 0 (by omega) (by omega) (by omega)
  · exact go 1 (by omega) (by omega) (by omega)
  · exact go 2 (by omega) (by omega) (by omega)
  · exact go 3 (by omega) (by omega) (by omega)
  · exact go 4 (by omega) (by omega) (by omega)
section NUMS
theorem z1 : (1 : Int64).toInt = 1 := by decide
theorem z16 : (16 : Int64).toInt = 16 := by decide
theorem z31 : (31 : Int64).toInt = 31 := by decide
theorem z256 : (256 : Int64).toInt = 256 := by decide
theorem z511 : (511 : Int64).toInt = 511 := by decide
theorem z4096 : (4096 : Int64).toInt = 4096 := by decide
theorem z8191 : (8191 : Int64).toInt = 8191 := by decide
theorem z65536 : (65536 : Int64).toInt = 65536 := by decide
theorem z131071 : (131071 : Int64).toInt = 131071 := by decide
theorem y1 : (1 : Int32).toInt = 1 := by decide
theorem y16 : (16 : Int32).toInt = 16 := by decide
theorem y32 : (32 : Int32).toInt = 32 := by decide
theorem y256 : (256 : Int32).toInt = 256 := by decide
theorem y512 : (512 : Int32).toInt = 512 := by decide
theorem y4096 : (4096 : Int32).toInt = 4096 := by decide
theorem y8192 : (8192 : Int32).toInt = 8192 := by decide
theorem y65536 : (65536 : Int32).toInt = 65536 := by decide
theorem y131072 : (131072 : Int32).toInt = 131072 := by decide
end NUMS
set_option maxHeartbeats 4000000 in
theorem isNum_eq (x : Int64) : f_PA_isNumber x = 0 ↔ ¬ isP x.toInt := by
  unfold f_PA_isNumber isP
  simp only [lgc_eq, lgc_lt, lgc_le, lgc_gt, z1, z16, z31, z256, z511, z4096, z8191, z65536, z131071]
  generalize x.toInt = z
  repeat' split
  all_goals first
    | (refine ⟨fun h => absurd h (by decide), fun h => ?_⟩; exfalso; omega)
    | (refine ⟨fun _ => ?_, fun _ => rfl⟩; omega)
noncomputable def nbZ (z : Int) : Int32 := if z = 1 then 0 else if 16 ≤ z ∧ z < 32 then 1 else if 256 ≤ z ∧ z < 512 then 2 else if 4096 ≤ z ∧ z < 8192 then 3 else if 65536 ≤ z ∧ z < 131072 then 4 else -1
set_option maxHeartbeats 4000000 in
theorem nibs_val (v : Int32) : f_MO_nibbles v = nbZ v.toInt := by
  have e1 : v = 1 ↔ v.toInt = 1 := by rw [← Int32.toInt_inj, y1]
  unfold f_MO_nibbles
  simp only [e1, Int32.lt_iff_toInt_lt (x := v), Int32.le_iff_toInt_le (y := v), y1, y16, y32, y256, y512, y4096, y8192, y65536, y131072]
  generalize v.toInt = z
  unfold nbZ
  by_cases h1 : z = 1
  · simp only [h1, if_true]
  simp only [h1, if_false]
  by_cases h2 : z < 16
  · have c1 : ¬ (16 ≤ z ∧ z < 32) := by omega
    have c2 : ¬ (256 ≤ z ∧ z < 512) := by omega
    have c3 : ¬ (4096 ≤ z ∧ z < 8192) := by omega
    have c4 : ¬ (65536 ≤ z ∧ z < 131072) := by omega
    have d2 : z < 256 := by omega
    have d3 : z < 4096 := by omega
    have d4 : z < 65536 := by omega
    simp only [h2, c1, c2, c3, c4, d2, d3, d4, if_true, if_false]
  by_cases h3 : z < 32
  · have c1 : 16 ≤ z ∧ z < 32 := by omega
    have d1 : ¬ 32 ≤ z := by omega
    simp only [h2, c1, d1, if_false, and_self, if_true]
  have c1 : ¬ (16 ≤ z ∧ z < 32) := by omega
  have d1 : 32 ≤ z := by omega
  simp only [h2, c1, d1, if_false, if_true]
  by_cases h4 : z < 256
  · have c2 : ¬ (256 ≤ z ∧ z < 512) := by omega
    have c3 : ¬ (4096 ≤ z ∧ z < 8192) := by omega
    have c4 : ¬ (65536 ≤ z ∧ z < 131072) := by omega
    have d3 : z < 4096 := by omega
    have d4 : z < 65536 := by omega
    simp only [h4, c2, c3, c4, d3, d4, if_true, if_false]
  by_cases h5 : z < 512
  · have c2 : 256 ≤ z ∧ z < 512 := by omega
    have d2 : ¬ 512 ≤ z := by omega
    simp only [h4, c2, d2, if_false, and_self, if_true]
  have c2 : ¬ (256 ≤ z ∧ z < 512) := by omega
  have d2 : 512 ≤ z := by omega
  simp only [h4, c2, d2, if_false, if_true]
  by_cases h6 : z < 4096
  · have c3 : ¬ (4096 ≤ z ∧ z < 8192) := by omega
    have c4 : ¬ (65536 ≤ z ∧ z < 131072) := by omega
    have d4 : z < 65536 := by omega
    simp only [h6, c3, c4, d4, if_true, if_false]
  by_cases h7 : z < 8192
  · have c3 : 4096 ≤ z ∧ z < 8192 := by omega
    have d3 : ¬ 8192 ≤ z := by omega
    simp only [h6, c3, d3, if_false, and_self, if_true]
  have c3 : ¬ (4096 ≤ z ∧ z < 8192) := by omega
  have d3 : 8192 ≤ z := by omega
  simp only [h6, c3, d3, if_false, if_true]
  by_cases h8 : z < 65536
  · have c4 : ¬ (65536 ≤ z ∧ z < 131072) := by omega
    simp only [h8, c4, if_true, if_false]
  by_cases h9 : z < 131072
  · have c4 : 65536 ≤ z ∧ z < 131072 := by omega
    have d4 : ¬ 131072 ≤ z := by omega
    simp only [h8, c4, d4, if_false, and_self, if_true]
  have c4 : ¬ (65536 ≤ z ∧ z < 131072) := by omega
  have d4 : 131072 ≤ z := by omega
  simp only [h8, c4, d4, if_false, if_true]
theorem nibs_eq (v : Int32) : (f_MO_nibbles v < 0 ↔ ¬ isP v.toInt) ∧ (0 ≤ f_MO_nibbles v ↔ isP v.toInt) := by
  rw [nibs_val]
  generalize v.toInt = z
  unfold nbZ isP
  by_cases h1 : z = 1
  · rw [if_pos h1]
    exact ⟨⟨fun h => absurd h (by decide), fun h => absurd (Or.inl h1) h⟩, fun _ => Or.inl h1, fun _ => by decide⟩
  rw [if_neg h1]
  by_cases h2 : 16 ≤ z ∧ z < 32
  · rw [if_pos h2]
    exact ⟨⟨fun h => absurd h (by decide), fun h => absurd (Or.inr (Or.inl h2)) h⟩, fun _ => Or.inr (Or.inl h2), fun _ => by decide⟩
  rw [if_neg h2]
  by_cases h3 : 256 ≤ z ∧ z < 512
  · rw [if_pos h3]
    exact ⟨⟨fun h => absurd h (by decide), fun h => absurd (Or.inr (Or.inr (Or.inl h3))) h⟩, fun _ => Or.inr (Or.inr (Or.inl h3)), fun _ => by decide⟩
  rw [if_neg h3]
  by_cases h4 : 4096 ≤ z ∧ z < 8192
  · rw [if_pos h4]
    exact ⟨⟨fun h => absurd h (by decide), fun h => absurd (Or.inr (Or.inr (Or.inr (Or.inl h4)))) h⟩, fun _ => Or.inr (Or.inr (Or.inr (Or.inl h4))), fun _ => by decide⟩
  rw [if_neg h4]
  by_cases h5 : 65536 ≤ z ∧ z < 131072
  · rw [if_pos h5]
    exact ⟨⟨fun h => absurd h (by decide), fun h => absurd (Or.inr (Or.inr (Or.inr (Or.inr h5)))) h⟩, fun _ => Or.inr (Or.inr (Or.inr (Or.inr h5))), fun _ => by decide⟩
  rw [if_neg h5]
  refine ⟨⟨fun _ h => ?_, fun _ => by decide⟩, fun h => absurd h (by decide), fun h => ?_⟩ <;> (rcases h with h | h | h | h | h <;> contradiction)
theorem MO_nibs {p : List Nat} (h : nb p) : f_MO_nibbles (nI (num p)) = nI p.length := by
  have hs := num_sm h
  have h1 := num_lo p
  have h2 := num_hi h.2
  have hl := h.1
  rw [nibs_val, nI_toInt (by omega)]
  unfold nbZ
  rcases (show p.length = 0 ∨ p.length = 1 ∨ p.length = 2 ∨ p.length = 3 ∨ p.length = 4 by omega) with e | e | e | e | e <;> rw [e] at h1 h2 ⊢
  · rw [if_pos (by omega)]; rfl
  · rw [if_neg (by omega), if_pos (by omega)]; rfl
  · rw [if_neg (by omega), if_neg (by omega), if_pos (by omega)]; rfl
  · rw [if_neg (by omega), if_neg (by omega), if_neg (by omega), if_pos (by omega)]; rfl
  · rw [if_neg (by omega), if_neg (by omega), if_neg (by omega), if_neg (by omega), if_pos (by omega)]; rfl
theorem toInt_l (v : Int32) : v.toInt64.toInt = v.toInt := by simp
theorem valid_iff (v : Int32) : f_PA_isNumber v.toInt64 = 0 ↔ f_MO_nibbles v < 0 := by rw [isNum_eq, (nibs_eq v).1, toInt_l]
/-- a number that the reference takes for a path is one -/
theorem valid_of {v : Int32} (h : ¬ f_MO_nibbles v < 0) : ∃ p, nb p ∧ v = nI (num p) := by
  have hp : isP v.toInt := Classical.byContradiction fun q => h ((nibs_eq v).1.mpr q)
  have h0 : 0 ≤ v.toInt := by unfold isP at hp; omega
  obtain ⟨p, h1, h2⟩ := path_of (n := v.toInt.toNat) (by rw [Int.toNat_of_nonneg h0]; exact hp)
  refine ⟨p, h1, ?_⟩
  apply Int32.toInt_inj.mp
  have hs := num_sm h1
  rw [nI_toInt (by omega), h2]
  omega
theorem MO_begins_eq {p q : List Nat} (hp : nb p) (hq : nb q) : f_MO_begins (nI (num p)) (nI (num q)) = if q <+: p then 1 else 0 := by
  have h1 := hp.1
  have h2 := hq.1
  have hs := num_sm hp
  unfold f_MO_begins
  simp only [st]
  rw [MO_nibs hp, MO_nibs hq]
  by_cases hl : p.length < q.length
  · rw [if_pos (pk_sneg (by omega) hl), if_neg]
    intro h
    have := h.length_le
    omega
  · rw [nI_sub' (by omega), if_neg (nI_pos (by omega)), sh_r (by omega) (by omega), num_front hp.2 (by omega)]
    by_cases he : q <+: p
    · rw [if_pos he, if_pos]
      rw [List.prefix_iff_eq_take.mp he, List.length_take, Nat.min_eq_left (by omega)]
    · rw [if_neg he, if_neg]
      intro h
      apply he
      have hs1 := num_sm (p := p.take q.length) ⟨by rw [List.length_take]; omega, fun d hd => hp.2 d (List.mem_of_mem_take hd)⟩
      have hs2 := num_sm hq
      have := (nI_eq (by omega) (by omega)).mp h
      have e := num_inj' (fun d hd => hp.2 d (List.mem_of_mem_take hd)) hq.2 this
      rw [← e]
      exact List.take_prefix _ _
theorem sh_ln {n j : Nat} (hn : n < 131072) (hj : j ≤ 4) (h : n * 16 ^ j < 2 ^ 31) : nI n <<< ((4 * nI j) &&& 31) = nI (n * 16 ^ j) := by
  rcases (show j = 0 ∨ j = 1 ∨ j = 2 ∨ j = 3 ∨ j = 4 by omega) with rfl | rfl | rfl | rfl | rfl
  · exact pk_shlN _ 0 (by decide) (by omega)
  · exact pk_shlN _ 4 (by decide) (by omega)
  · exact pk_shlN _ 8 (by decide) (by omega)
  · exact pk_shlN _ 12 (by decide) (by omega)
  · exact pk_shlN _ 16 (by decide) (by omega)
theorem MO_behind_eq {p q : List Nat} (hp : nb p) (hq : nb q) (h : q <+: p) : f_MO_behind (nI (num p)) (nI (num q)) = nI (num (p.drop q.length)) := by
  have h1 := hp.1
  have hl := h.length_le
  have hs := num_sm hp
  have hs2 := num_sm hq
  have eq : q = p.take q.length := by
    have := List.prefix_iff_eq_take.mp h
    exact this
  have en : num p = num q * 16 ^ (p.length - q.length) + vl (p.drop q.length) := by
    have := num_app (p.take q.length) (p.drop q.length)
    rw [List.take_append_drop, List.length_drop, ← eq] at this
    exact this
  have hb := (num_back hp.2 hl).2
  unfold f_MO_behind
  simp only [st]
  rw [MO_nibs hp, MO_nibs hq, nI_sub' hl, sh_ln hs2.2 (by omega) (by omega), nI_sub' (by omega), sh_l (by omega), nI_add, hb]
  congr 1
  omega
