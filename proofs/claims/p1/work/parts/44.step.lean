/-! One round of the law's loop, out of what the calls answer. -/
theorem ix_nI {c n : Nat} (h : c < n) (hn : n < 2 ^ 31) : ix (nI c) n = some c := by
  unfold ix
  rw [nI_clamp (by omega), if_neg]
  intro q
  rcases q with q | q
  · exact nI_pos (by omega) q
  · omega
theorem lg_self (r : Int64) : lg_cmp r r = 0 := by simp [lg_cmp]
theorem lg_eq {r q : Int64} : lg_cmp r q = 0 ↔ r = q := by
  unfold lg_cmp
  by_cases h1 : q < r
  · simp only [h1, if_true]
    exact ⟨fun h => absurd h (by decide), fun h => absurd h1 (by rw [h]; exact Int64.lt_irrefl)⟩
  · by_cases h2 : r = q
    · subst h2; simp
    · simp [h1, h2]
def Both {α : Type} (Q : Mm → Prop) (f g : Mm → Option (α × Mm)) (M : Mm) : Prop := ∃ (r : α) (M1 M2 : Mm), f M = some (r, M1) ∧ g M1 = some (r, M2) ∧ Q M2
def StepOK (G : Nat → Nat) (x mo : Nat) (Q : Mm → Prop) (M : Mm) : Prop :=
  (∀ a b : Int32, Both Q (f_NT_put G x a b) (f_MO_put G mo a b) M) ∧
  (∀ a : Int32, ∃ r, f_NT_get G x a M = some r ∧ f_MO_get G mo a M = some r) ∧
  (f_MO_size G mo M = some (f_NT_size G x M)) ∧
  (Both Q (f_NT_root G x) (f_MO_root G mo) M) ∧
  (∀ a : Int32, ∃ M2, f_MO_count G mo a M = some (f_NT_count G x a M, M2) ∧ Q M2) ∧
  (∀ a : Int32, Both Q (f_NT_commit G x a) (f_MO_commit G mo a) M) ∧
  (Both Q (f_NT_crash G x) (f_MO_crash G mo) M) ∧
  (f_NT_versions G x M = f_MO_versions G mo M) ∧
  (∀ a b : Int32, ∃ r, f_NT_at G x a b M = some r ∧ f_MO_at G mo a b M = some r) ∧
  (∀ a : Int32, Both Q (f_NT_rootAt G x a) (f_MO_rootAt G mo a) M) ∧
  (∃ r, f_NT_stored G x M = some r ∧ f_MO_stored G mo M = some r) ∧
  (∀ d : Int64, ∃ r M1, f_NT_uses G x d M = some (r, M1) ∧ f_MO_uses G mo d M1 = some r ∧ Q M1) ∧
  (∀ a b : Int32, Both Q (f_NT_prove G x a b) (f_MO_prove G mo a b) M) ∧
  (∀ a : Int32, ∃ r, f_NT_word G x a M = some r ∧ f_MO_word G mo a M = some r) ∧
  (∀ (a : Int32) (w : Int64), Both Q (f_NT_alter G x a w) (f_MO_alter G mo a w) M) ∧
  ((f_NT_cut G x M).1 = (f_MO_cut G mo (f_NT_cut G x M).2).1 ∧ Q (f_MO_cut G mo (f_NT_cut G x M).2).2) ∧
  (∀ (w : Int64) (a b : Int32), Both Q (f_NT_verify G x w a b) (f_MO_verify G mo w a b) M) ∧ Q M
set_option maxHeartbeats 4000000 in
theorem law_step {G : Nat → Nat} {xs : Nat → Int32} {Ls n x mo c : Nat} {M : Mm} {Q : Mm → Prop} (hc : c + 5 ≤ Ls) (hL : Ls ≤ 2561) (hS : StepOK G x mo Q M) (hn : ∀ M', Q M' → f_LW_law_28 G xs Ls n x mo (nI c + 5) M' = some ()) : f_LW_law_28 G xs Ls (n + 1) x mo (nI c) M = some () := by
  have i0 : ix (nI c) Ls = some c := ix_nI (by omega) (by omega)
  have i1 : ix (nI c + 1) Ls = some (c + 1) := by rw [show nI c + 1 = nI (c + 1) from nI_add c 1]; exact ix_nI (by omega) (by omega)
  have i2 : ix (nI c + 2) Ls = some (c + 2) := by rw [show nI c + 2 = nI (c + 2) from nI_add c 2]; exact ix_nI (by omega) (by omega)
  have i3 : ix (nI c + 3) Ls = some (c + 3) := by rw [show nI c + 3 = nI (c + 3) from nI_add c 3]; exact ix_nI (by omega) (by omega)
  have i4 : ix (nI c + 4) Ls = some (c + 4) := by rw [show nI c + 4 = nI (c + 4) from nI_add c 4]; exact ix_nI (by omega) (by omega)
  have hlt : ¬ (Int32.ofNat Ls - 5) < nI c := by
    rw [show Int32.ofNat Ls - 5 = nI (Ls - 5) from pk_sub (a := Ls) (b := 5) (by omega)]
    exact nI_nlt (by omega) (by omega)
  obtain ⟨s0, s1, s2, s3, s4, s5, s6, s7, s8, s9, s10, s11, s12, s13, s14, s15, s16, sQ⟩ := hS
  rw [f_LW_law_28, if_neg hlt, i0]
  simp only [Option.bind_some, i1, i2, i3, i4]
  by_cases h0 : xs c &&& 31 = 0
  · rw [if_pos h0]
    obtain ⟨r, M1, M2, e1, e2, q⟩ := s0 (xs (c + 1)) (xs (c + 2))
    simp only [e1, Option.bind_some, e2, if_true]
    exact hn _ q
  rw [if_neg h0]
  by_cases h1 : xs c &&& 31 = 1
  · rw [if_pos h1]
    obtain ⟨r, e1, e2⟩ := s1 (xs (c + 1))
    simp only [e1, Option.bind_some, e2, if_true]
    exact hn _ sQ
  rw [if_neg h1]
  by_cases h2 : xs c &&& 31 = 2
  · rw [if_pos h2]
    simp only [s2, Option.bind_some, if_true]
    exact hn _ sQ
  rw [if_neg h2]
  by_cases h3 : xs c &&& 31 = 3
  · rw [if_pos h3]
    obtain ⟨r, M1, M2, e1, e2, q⟩ := s3
    simp only [e1, Option.bind_some, e2, lg_self, if_true]
    exact hn _ q
  rw [if_neg h3]
  by_cases h4 : xs c &&& 31 = 4
  · rw [if_pos h4]
    obtain ⟨M2, e1, q⟩ := s4 (xs (c + 1))
    simp only [e1, Option.bind_some, if_true]
    exact hn _ q
  rw [if_neg h4]
  by_cases h5 : xs c &&& 31 = 5
  · rw [if_pos h5]
    obtain ⟨r, M1, M2, e1, e2, q⟩ := s5 (xs (c + 1))
    simp only [e1, Option.bind_some, e2, if_true]
    exact hn _ q
  rw [if_neg h5]
  by_cases h6 : xs c &&& 31 = 6
  · rw [if_pos h6]
    obtain ⟨r, M1, M2, e1, e2, q⟩ := s6
    simp only [e1, Option.bind_some, e2, if_true]
    exact hn _ q
  rw [if_neg h6]
  by_cases h7 : xs c &&& 31 = 7
  · rw [if_pos h7, if_pos s7]
    exact hn _ sQ
  rw [if_neg h7]
  by_cases h8 : xs c &&& 31 = 8
  · rw [if_pos h8]
    obtain ⟨r, e1, e2⟩ := s8 (xs (c + 1)) (xs (c + 2))
    simp only [e1, Option.bind_some, e2, if_true]
    exact hn _ sQ
  rw [if_neg h8]
  by_cases h9 : xs c &&& 31 = 9
  · rw [if_pos h9]
    obtain ⟨r, M1, M2, e1, e2, q⟩ := s9 (xs (c + 1))
    simp only [e1, Option.bind_some, e2, lg_self, if_true]
    exact hn _ q
  rw [if_neg h9]
  by_cases h10 : xs c &&& 31 = 10
  · rw [if_pos h10]
    obtain ⟨r, e1, e2⟩ := s10
    simp only [e1, Option.bind_some, e2, if_true]
    exact hn _ sQ
  rw [if_neg h10]
  by_cases h11 : xs c &&& 31 = 11
  · rw [if_pos h11]
    obtain ⟨r, M1, e1, e2, q⟩ := s11 ((((xs (c + 1)).toInt64) <<< ((32 : Int32).toInt64 &&& 63)) ||| (((xs (c + 2)).toInt64) &&& 4294967295))
    simp only [e1, Option.bind_some, e2, if_true]
    exact hn _ q
  rw [if_neg h11]
  by_cases h12 : xs c &&& 31 = 12
  · rw [if_pos h12]
    obtain ⟨r, M1, M2, e1, e2, q⟩ := s12 (xs (c + 1)) (xs (c + 2))
    simp only [e1, Option.bind_some, e2, if_true]
    exact hn _ q
  rw [if_neg h12]
  by_cases h13 : xs c &&& 31 = 13
  · rw [if_pos h13]
    obtain ⟨r, e1, e2⟩ := s13 (xs (c + 1))
    simp only [e1, Option.bind_some, e2, lg_self, if_true]
    exact hn _ sQ
  rw [if_neg h13]
  by_cases h14 : xs c &&& 31 = 14
  · rw [if_pos h14]
    obtain ⟨r, M1, M2, e1, e2, q⟩ := s14 (xs (c + 1)) ((((xs (c + 2)).toInt64) <<< ((32 : Int32).toInt64 &&& 63)) ||| (((xs (c + 3)).toInt64) &&& 4294967295))
    simp only [e1, Option.bind_some, e2, if_true]
    exact hn _ q
  rw [if_neg h14]
  by_cases h15 : xs c &&& 31 = 15
  · rw [if_pos h15]
    simp only [st]
    rw [if_pos s15.1]
    exact hn _ s15.2
  rw [if_neg h15]
  by_cases h16 : xs c &&& 31 = 16
  · rw [if_pos h16]
    obtain ⟨r, M1, M2, e1, e2, q⟩ := s16 ((((xs (c + 1)).toInt64) <<< ((32 : Int32).toInt64 &&& 63)) ||| (((xs (c + 2)).toInt64) &&& 4294967295)) (xs (c + 3)) (xs (c + 4))
    simp only [e1, Option.bind_some, e2, if_true]
    exact hn _ q
  rw [if_neg h16]
  exact hn _ sQ
/-- the loop's end -/
theorem law_done {G : Nat → Nat} {xs : Nat → Int32} {Ls n x mo c : Nat} {M : Mm} (hc : Ls < c + 5) (hL : Ls ≤ 2561) (h1 : c ≤ 2561) : f_LW_law_28 G xs Ls (n + 1) x mo (nI c) M = some () := by
  rw [f_LW_law_28, if_pos]
  rw [Int32.lt_iff_toInt_lt]
  have e : Int32.ofNat Ls - 5 = nI Ls - nI 5 := rfl
  rw [e, pk_sub_toInt (by omega) (by omega), nI_toInt (by omega)]
  omega
/-- the whole loop, out of a relation that every call keeps -/
theorem law_all {G : Nat → Nat} {xs : Nat → Int32} {Ls x mo : Nat} {Q : Mm → Prop} (hL : Ls ≤ 2561) (hQ : ∀ M, Q M → StepOK G x mo Q M) : ∀ (n c : Nat) (M : Mm), c ≤ 2561 → Ls < n + c → Q M → f_LW_law_28 G xs Ls (n + 1) x mo (nI c) M = some () := by
  intro n
  induction n with
  | zero => intro c M h1 h2 hM; exact law_done (by omega) hL h1
  | succ n ih =>
    intro c M h1 h2 hM
    by_cases h : c + 5 ≤ Ls
    · refine law_step h hL (hQ M hM) (fun M' hM' => ?_)
      rw [show nI c + 5 = nI (c + 5) from nI_add c 5]
      exact ih (c + 5) M' (by omega) (by omega) hM'
    · exact law_done (by omega) hL h1
theorem pure_of {x k : Nat} {b t : Nat → Nat} {uu : Nat → Nat → Nat} {mo : Nat} {um : Nat → Nat} {xs : Nat → Int32} {Ls : Nat} {Q : Mm → Prop} {ds : List De} (hL : Ls ≤ 2561) (hQ : ∀ M, Q M → StepOK (GD ds) x mo Q M) (h0 : Q (MD ds)) : f_LW_law_28 (GD ds) xs Ls FU x mo 1 (MD ds) = some () := law_all hL hQ 4095 1 (MD ds) (by omega) (by omega) h0
