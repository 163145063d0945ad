/-! Footprints: a call changes cells of its own side alone; the kinds stay. -/
def OIv (K G O : Nat → Nat) (R : Nat → Nat → Nat) : Prop := (∀ a, K a = 3 → ∀ i, i < G a → O (R a i) = O a) ∧ (∀ a, K a = 4 → ∀ i, i < G a → O (R a i) = O a) ∧ (∀ a, K a = 5 → O (R a 0) = O a ∧ O (R a 1) = O a ∧ O (R a 3) = O a) ∧ (∀ a, K a = 6 → O (R a 0) = O a ∧ O (R a 4) = O a ∧ O (R a 5) = O a ∧ O (R a 6) = O a ∧ O (R a 7) = O a ∧ O (R a 8) = O a ∧ O (R a 9) = O a) ∧ (∀ a, K a = 7 → O (R a 0) = O a ∧ O (R a 1) = O a) ∧ (∀ a, K a = 8 → O (R a 0) = O a) ∧ (∀ a, K a = 9 → O (R a 0) = O a ∧ O (R a 1) = O a ∧ O (R a 2) = O a ∧ O (R a 5) = O a ∧ O (R a 6) = O a ∧ O (R a 7) = O a ∧ O (R a 8) = O a ∧ O (R a 10) = O a)
def ZI (K G O : Nat → Nat) (L : List Nat) (M : Mm) : Prop := Inv K G L M.2.2 ∧ OIv K G O M.2.2
def Agr (O : Nat → Nat) (i : Nat) (M M2 : Mm) : Prop := ∀ b, O b ≠ i → M2.1 b = M.1 b ∧ M2.2.1 b = M.2.1 b ∧ M2.2.2 b = M.2.2 b
def Zo (K G O : Nat → Nat) (L : List Nat) (i : Nat) (M M2 : Mm) : Prop := Agr O i M M2 ∧ ZI K G O L M2
theorem ifC {α : Type} {c : Prop} [Decidable c] {a b r : α} (h : (if c then a else b) = r) : (c ∧ a = r) ∨ (¬ c ∧ b = r) := by
  by_cases hc : c
  · exact Or.inl ⟨hc, ifP h hc⟩
  · exact Or.inr ⟨hc, ifN h hc⟩
section FOOT
variable {K G O : Nat → Nat} {L : List Nat} {i a k : Nat} {M0 M M1 : Mm}
theorem Zo.rf (h : ZI K G O L M) : Zo K G O L i M M := ⟨fun _ _ => ⟨rfl, rfl, rfl⟩, h⟩
theorem Zo.step {M2 : Mm} (h : Zo K G O L i M0 M) (g : Zo K G O L i M M2) : Zo K G O L i M0 M2 := ⟨fun b hb => ⟨(g.1 b hb).1.trans (h.1 b hb).1, (g.1 b hb).2.1.trans (h.1 b hb).2.1, (g.1 b hb).2.2.trans (h.1 b hb).2.2⟩, g.2⟩
theorem z_si {x : Int32} (h : Zo K G O L i M0 M) (e : M1 = si M a k x) (ha : O a = i) : Zo K G O L i M0 M1 := by
  subst e
  exact h.step ⟨fun b hb => ⟨si_ne (fun z => hb (by rw [z, ha])), rfl, rfl⟩, h.2⟩
theorem z_sl {x : Int64} (h : Zo K G O L i M0 M) (e : M1 = sl M a k x) (ha : O a = i) : Zo K G O L i M0 M1 := by
  subst e
  exact h.step ⟨fun b hb => ⟨rfl, sl_ne (fun z => hb (by rw [z, ha])), rfl⟩, h.2⟩
theorem z_cp {a0 : Nat} {sp dp n : Int32} (h : Zo K G O L i M0 M) (e : cpI G M a0 sp a dp n = some M1) (ha : O a = i) : Zo K G O L i M0 M1 := by
  unfold cpI at e
  rcases ifC e with ⟨_, e⟩ | ⟨_, e⟩
  · cases e
  · obtain rfl := Option.some.inj e
    exact h.step ⟨fun b hb => ⟨by funext j; exact if_neg (fun z => hb (by rw [z, ha])), rfl, rfl⟩, h.2⟩
theorem z_sr {x : Nat} (h : Zo K G O L i M0 M) (e : M1 = sr M a k x) (ka : K a = 3) (ha : O a = i) (kx : K x = 6) (hx : O x = i) : Zo K G O L i M0 M1 := by
  subst e
  refine h.step ⟨fun b hb => ⟨rfl, rfl, sr_ne (fun z => hb (by rw [z, ha]))⟩, inv_sr h.2.1 ka kx, ?_⟩
  have ne : ∀ b n : Nat, K b = n → n ≠ 3 → (sr M a k x).2.2 b = M.2.2 b := fun b n hb hk => sr_ne (fun e => hk (by rw [← hb, e, ka]))
  obtain ⟨h2, h3, h4, h5, h6, h7, h8⟩ := h.2.2
  refine ⟨fun b hb j hj => ?_, fun b hb j hj => ?_, fun b hb => ?_, fun b hb => ?_, fun b hb => ?_, fun b hb => ?_, fun b hb => ?_⟩
  · show O (if b = a ∧ j = k then x else M.2.2 b j) = O b
    by_cases c : b = a ∧ j = k
    · rw [if_pos c, c.1, hx, ha]
    · rw [if_neg c]; exact h2 b hb j hj
  · rw [ne b _ hb (by decide)]; exact h3 b hb j hj
  · rw [ne b _ hb (by decide)]; exact h4 b hb
  · rw [ne b _ hb (by decide)]; exact h5 b hb
  · rw [ne b _ hb (by decide)]; exact h6 b hb
  · rw [ne b _ hb (by decide)]; exact h7 b hb
  · rw [ne b _ hb (by decide)]; exact h8 b hb
theorem u_NT_working (h : Inv K G L M.2.2) (ha : K a = 5) : K (gr M a 0) = 6 := (h.2.2.2.1 a ha).1
theorem o_NT_working (h : OIv K G O M.2.2) (ha : K a = 5) (hw : O a = i) : O (gr M a 0) = i := ((h.2.2.1 a ha).1).trans hw
theorem u_NT_kept (h : Inv K G L M.2.2) (ha : K a = 5) : K (gr M a 1) = 3 := (h.2.2.2.1 a ha).2.1
theorem o_NT_kept (h : OIv K G O M.2.2) (ha : K a = 5) (hw : O a = i) : O (gr M a 1) = i := ((h.2.2.1 a ha).2.1).trans hw
theorem u_NT_proof (h : Inv K G L M.2.2) (ha : K a = 5) : K (gr M a 3) = 8 := (h.2.2.2.1 a ha).2.2
theorem o_NT_proof (h : OIv K G O M.2.2) (ha : K a = 5) (hw : O a = i) : O (gr M a 3) = i := ((h.2.2.1 a ha).2.2).trans hw
theorem u_TR_map (h : Inv K G L M.2.2) (ha : K a = 6) : K (gr M a 0) = 7 := (h.2.2.2.2.1 a ha).1
theorem o_TR_map (h : OIv K G O M.2.2) (ha : K a = 6) (hw : O a = i) : O (gr M a 0) = i := ((h.2.2.2.1 a ha).1).trans hw
theorem u_TR_parent (h : Inv K G L M.2.2) (ha : K a = 6) : K (gr M a 4) = 1 := (h.2.2.2.2.1 a ha).2.1
theorem o_TR_parent (h : OIv K G O M.2.2) (ha : K a = 6) (hw : O a = i) : O (gr M a 4) = i := ((h.2.2.2.1 a ha).2.1).trans hw
theorem u_TR_firstRow (h : Inv K G L M.2.2) (ha : K a = 6) : K (gr M a 5) = 1 := (h.2.2.2.2.1 a ha).2.2.1
theorem o_TR_firstRow (h : OIv K G O M.2.2) (ha : K a = 6) (hw : O a = i) : O (gr M a 5) = i := ((h.2.2.2.1 a ha).2.2.1).trans hw
theorem u_TR_endRow (h : Inv K G L M.2.2) (ha : K a = 6) : K (gr M a 6) = 1 := (h.2.2.2.2.1 a ha).2.2.2.1
theorem o_TR_endRow (h : OIv K G O M.2.2) (ha : K a = 6) (hw : O a = i) : O (gr M a 6) = i := ((h.2.2.2.1 a ha).2.2.2.1).trans hw
theorem u_TR_depth (h : Inv K G L M.2.2) (ha : K a = 6) : K (gr M a 7) = 1 := (h.2.2.2.2.1 a ha).2.2.2.2.1
theorem o_TR_depth (h : OIv K G O M.2.2) (ha : K a = 6) (hw : O a = i) : O (gr M a 7) = i := ((h.2.2.2.1 a ha).2.2.2.2.1).trans hw
theorem u_TR_topReference (h : Inv K G L M.2.2) (ha : K a = 6) : K (gr M a 8) = 2 := (h.2.2.2.2.1 a ha).2.2.2.2.2.1
theorem o_TR_topReference (h : OIv K G O M.2.2) (ha : K a = 6) (hw : O a = i) : O (gr M a 8) = i := ((h.2.2.2.1 a ha).2.2.2.2.2.1).trans hw
theorem u_TR_drafts (h : Inv K G L M.2.2) (ha : K a = 6) : K (gr M a 9) = 4 := (h.2.2.2.2.1 a ha).2.2.2.2.2.2
theorem o_TR_drafts (h : OIv K G O M.2.2) (ha : K a = 6) (hw : O a = i) : O (gr M a 9) = i := ((h.2.2.2.1 a ha).2.2.2.2.2.2).trans hw
theorem u_PM_paths (h : Inv K G L M.2.2) (ha : K a = 7) : K (gr M a 0) = 1 := (h.2.2.2.2.2.1 a ha).1
theorem o_PM_paths (h : OIv K G O M.2.2) (ha : K a = 7) (hw : O a = i) : O (gr M a 0) = i := ((h.2.2.2.2.1 a ha).1).trans hw
theorem u_PM_values (h : Inv K G L M.2.2) (ha : K a = 7) : K (gr M a 1) = 1 := (h.2.2.2.2.2.1 a ha).2
theorem o_PM_values (h : OIv K G O M.2.2) (ha : K a = 7) (hw : O a = i) : O (gr M a 1) = i := ((h.2.2.2.2.1 a ha).2).trans hw
theorem u_PF_words (h : Inv K G L M.2.2) (ha : K a = 8) : K (gr M a 0) = 2 := (h.2.2.2.2.2.2.1 a ha)
theorem o_PF_words (h : OIv K G O M.2.2) (ha : K a = 8) (hw : O a = i) : O (gr M a 0) = i := ((h.2.2.2.2.2.1 a ha)).trans hw
theorem u_MO_keys (h : Inv K G L M.2.2) (ha : K a = 9) : K (gr M a 0) = 1 := (h.2.2.2.2.2.2.2 a ha).1
theorem o_MO_keys (h : OIv K G O M.2.2) (ha : K a = 9) (hw : O a = i) : O (gr M a 0) = i := ((h.2.2.2.2.2.2 a ha).1).trans hw
theorem u_MO_values (h : Inv K G L M.2.2) (ha : K a = 9) : K (gr M a 1) = 1 := (h.2.2.2.2.2.2.2 a ha).2.1
theorem o_MO_values (h : OIv K G O M.2.2) (ha : K a = 9) (hw : O a = i) : O (gr M a 1) = i := ((h.2.2.2.2.2.2 a ha).2.1).trans hw
theorem u_MO_sizes (h : Inv K G L M.2.2) (ha : K a = 9) : K (gr M a 2) = 1 := (h.2.2.2.2.2.2.2 a ha).2.2.1
theorem o_MO_sizes (h : OIv K G O M.2.2) (ha : K a = 9) (hw : O a = i) : O (gr M a 2) = i := ((h.2.2.2.2.2.2 a ha).2.2.1).trans hw
theorem u_MO_branch (h : Inv K G L M.2.2) (ha : K a = 9) : K (gr M a 5) = 1 := (h.2.2.2.2.2.2.2 a ha).2.2.2.1
theorem o_MO_branch (h : OIv K G O M.2.2) (ha : K a = 9) (hw : O a = i) : O (gr M a 5) = i := ((h.2.2.2.2.2.2 a ha).2.2.2.1).trans hw
theorem u_MO_digest (h : Inv K G L M.2.2) (ha : K a = 9) : K (gr M a 6) = 2 := (h.2.2.2.2.2.2.2 a ha).2.2.2.2.1
theorem o_MO_digest (h : OIv K G O M.2.2) (ha : K a = 9) (hw : O a = i) : O (gr M a 6) = i := ((h.2.2.2.2.2.2 a ha).2.2.2.2.1).trans hw
theorem u_MO_branches (h : Inv K G L M.2.2) (ha : K a = 9) : K (gr M a 7) = 1 := (h.2.2.2.2.2.2.2 a ha).2.2.2.2.2.1
theorem o_MO_branches (h : OIv K G O M.2.2) (ha : K a = 9) (hw : O a = i) : O (gr M a 7) = i := ((h.2.2.2.2.2.2 a ha).2.2.2.2.2.1).trans hw
theorem u_MO_words (h : Inv K G L M.2.2) (ha : K a = 9) : K (gr M a 8) = 2 := (h.2.2.2.2.2.2.2 a ha).2.2.2.2.2.2.1
theorem o_MO_words (h : OIv K G O M.2.2) (ha : K a = 9) (hw : O a = i) : O (gr M a 8) = i := ((h.2.2.2.2.2.2 a ha).2.2.2.2.2.2.1).trans hw
theorem u_MO_proof (h : Inv K G L M.2.2) (ha : K a = 9) : K (gr M a 10) = 2 := (h.2.2.2.2.2.2.2 a ha).2.2.2.2.2.2.2
theorem o_MO_proof (h : OIv K G O M.2.2) (ha : K a = 9) (hw : O a = i) : O (gr M a 10) = i := ((h.2.2.2.2.2.2 a ha).2.2.2.2.2.2.2).trans hw
theorem u_tel (h : Inv K G L M.2.2) (ha : K a = 3) {x : Int32} {j : Nat} (hj : ix x (G a) = some j) : K (gr M a j) = 6 := by
  obtain ⟨h1, rfl⟩ := ixE hj
  exact h.2.1 a ha _ (Nat.not_le.mp fun q => h1 (Or.inr q))
theorem o_tel (h : OIv K G O M.2.2) (ha : K a = 3) (hw : O a = i) {x : Int32} {j : Nat} (hj : ix x (G a) = some j) : O (gr M a j) = i := by
  obtain ⟨h1, rfl⟩ := ixE hj
  exact (h.1 a ha _ (Nat.not_le.mp fun q => h1 (Or.inr q))).trans hw
theorem u_gel (h : Inv K G L M.2.2) (ha : K a = 4) {x : Int32} {j : Nat} (hj : ix x (G a) = some j) : K (gr M a j) = 2 := by
  obtain ⟨h1, rfl⟩ := ixE hj
  exact h.2.2.1 a ha _ (Nat.not_le.mp fun q => h1 (Or.inr q))
theorem o_gel (h : OIv K G O M.2.2) (ha : K a = 4) (hw : O a = i) {x : Int32} {j : Nat} (hj : ix x (G a) = some j) : O (gr M a j) = i := by
  obtain ⟨h1, rfl⟩ := ixE hj
  exact (h.2.1 a ha _ (Nat.not_le.mp fun q => h1 (Or.inr q))).trans hw
end FOOT
