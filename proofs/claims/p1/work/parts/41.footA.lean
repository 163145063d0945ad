set_option maxHeartbeats 4000000 in
set_option maxRecDepth 100000 in
theorem fo_PM_insert_15 {K G O : Nat → Nat} {L : List Nat} {i : Nat} {out : Mm} : ∀ (n : Nat) (v0 : Nat) (v1 : Int32) (v2 : Int32) (v3 : Int32) (M : Mm), K v0 = 7 → O v0 = i → ZI K G O L M → f_PM_insert_15 G n v0 v1 v2 v3 M = some out → Zo K G O L i M out := by
  intro n
  induction n with
  | zero => intro _ _ _ _ _ _ _ _ h; rw [f_PM_insert_15] at h; cases h
  | succ n ih =>
    intro v0 v1 v2 v3 M hv0 ov0 hI h
    rw [f_PM_insert_15] at h
    have hZ := Zo.rf (i := i) hI
    rcases ifC h with ⟨_, h⟩ | ⟨_, h⟩
    · have q1 := (u_PM_paths hZ.2.1 hv0)
      have oq1 := (o_PM_paths hZ.2.2 hv0 ov0)
      obtain ⟨j2, hj2, h⟩ := ob h
      obtain ⟨M3, eM3, h⟩ := stE h
      have hZ := z_si hZ eM3 oq1
      have q4 := (u_PM_values hZ.2.1 hv0)
      have oq4 := (o_PM_values hZ.2.2 hv0 ov0)
      obtain ⟨j5, hj5, h⟩ := ob h
      obtain ⟨M6, eM6, h⟩ := stE h
      have hZ := z_si hZ eM6 oq4
      obtain ⟨M7, eM7, h⟩ := stE h
      have hZ := z_si hZ eM7 ov0
      obtain rfl := Option.some.inj h
      exact hZ
    · have q8 := (u_PM_paths hZ.2.1 hv0)
      have oq8 := (o_PM_paths hZ.2.2 hv0 ov0)
      obtain ⟨j9, hj9, h⟩ := ob h
      rcases ifC h with ⟨_, h⟩ | ⟨_, h⟩
      · have q10 := (u_PM_paths hZ.2.1 hv0)
        have oq10 := (o_PM_paths hZ.2.2 hv0 ov0)
        obtain ⟨j11, hj11, h⟩ := ob h
        obtain ⟨M12, eM12, h⟩ := stE h
        have hZ := z_si hZ eM12 oq10
        have q13 := (u_PM_values hZ.2.1 hv0)
        have oq13 := (o_PM_values hZ.2.2 hv0 ov0)
        obtain ⟨j14, hj14, h⟩ := ob h
        obtain ⟨M15, eM15, h⟩ := stE h
        have hZ := z_si hZ eM15 oq13
        obtain ⟨M16, eM16, h⟩ := stE h
        have hZ := z_si hZ eM16 ov0
        obtain rfl := Option.some.inj h
        exact hZ
      · have q17 := (u_PM_paths hZ.2.1 hv0)
        have oq17 := (o_PM_paths hZ.2.2 hv0 ov0)
        have q18 := (u_PM_paths hZ.2.1 hv0)
        have oq18 := (o_PM_paths hZ.2.2 hv0 ov0)
        obtain ⟨j19, hj19, h⟩ := ob h
        obtain ⟨j20, hj20, h⟩ := ob h
        obtain ⟨M21, eM21, h⟩ := stE h
        have hZ := z_si hZ eM21 oq17
        have q22 := (u_PM_values hZ.2.1 hv0)
        have oq22 := (o_PM_values hZ.2.2 hv0 ov0)
        have q23 := (u_PM_values hZ.2.1 hv0)
        have oq23 := (o_PM_values hZ.2.2 hv0 ov0)
        obtain ⟨j24, hj24, h⟩ := ob h
        obtain ⟨j25, hj25, h⟩ := ob h
        obtain ⟨M26, eM26, h⟩ := stE h
        have hZ := z_si hZ eM26 oq22
        exact hZ.step (ih v0 v1 v2 (v3 + (-1)) M26 hv0 ov0 hZ.2 h)
set_option maxHeartbeats 4000000 in
set_option maxRecDepth 100000 in
theorem fo_PM_insert {K G O : Nat → Nat} {L : List Nat} {i : Nat} {out : Mm} (v0 : Nat) (v1 : Int32) (v2 : Int32) (M : Mm) (hv0 : K v0 = 7) (ov0 : O v0 = i) (hI : ZI K G O L M) (h : f_PM_insert G v0 v1 v2 M = some out) : Zo K G O L i M out := by
  unfold f_PM_insert at h
  have hZ := Zo.rf (i := i) hI
  rcases ifC h with ⟨_, h⟩ | ⟨_, h⟩
  · obtain rfl := Option.some.inj h
    exact hZ
  · exact hZ.step (fo_PM_insert_15 FU v0 v1 v2 (gi M v0 2) M hv0 ov0 hZ.2 h)
set_option maxHeartbeats 4000000 in
set_option maxRecDepth 100000 in
theorem fo_PM_remove_12 {K G O : Nat → Nat} {L : List Nat} {i : Nat} {out : Mm} : ∀ (n : Nat) (v0 : Nat) (v2 : Int32) (M : Mm), K v0 = 7 → O v0 = i → ZI K G O L M → f_PM_remove_12 G n v0 v2 M = some out → Zo K G O L i M out := by
  intro n
  induction n with
  | zero => intro _ _ _ _ _ _ h; rw [f_PM_remove_12] at h; cases h
  | succ n ih =>
    intro v0 v2 M hv0 ov0 hI h
    rw [f_PM_remove_12] at h
    have hZ := Zo.rf (i := i) hI
    rcases ifC h with ⟨_, h⟩ | ⟨_, h⟩
    · obtain rfl := Option.some.inj h
      exact hZ
    · have q1 := (u_PM_paths hZ.2.1 hv0)
      have oq1 := (o_PM_paths hZ.2.2 hv0 ov0)
      have q2 := (u_PM_paths hZ.2.1 hv0)
      have oq2 := (o_PM_paths hZ.2.2 hv0 ov0)
      obtain ⟨j3, hj3, h⟩ := ob h
      obtain ⟨j4, hj4, h⟩ := ob h
      obtain ⟨M5, eM5, h⟩ := stE h
      have hZ := z_si hZ eM5 oq1
      have q6 := (u_PM_values hZ.2.1 hv0)
      have oq6 := (o_PM_values hZ.2.2 hv0 ov0)
      have q7 := (u_PM_values hZ.2.1 hv0)
      have oq7 := (o_PM_values hZ.2.2 hv0 ov0)
      obtain ⟨j8, hj8, h⟩ := ob h
      obtain ⟨j9, hj9, h⟩ := ob h
      obtain ⟨M10, eM10, h⟩ := stE h
      have hZ := z_si hZ eM10 oq6
      exact hZ.step (ih v0 (v2 + 1) M10 hv0 ov0 hZ.2 h)
set_option maxHeartbeats 4000000 in
set_option maxRecDepth 100000 in
theorem fo_PM_remove {K G O : Nat → Nat} {L : List Nat} {i : Nat} {out : Mm} (v0 : Nat) (v1 : Int32) (M : Mm) (hv0 : K v0 = 7) (ov0 : O v0 = i) (hI : ZI K G O L M) (h : f_PM_remove G v0 v1 M = some out) : Zo K G O L i M out := by
  unfold f_PM_remove at h
  have hZ := Zo.rf (i := i) hI
  obtain ⟨M1, eM1, h⟩ := stE h
  have hZ := z_si hZ eM1 ov0
  exact hZ.step (fo_PM_remove_12 FU v0 v1 M1 hv0 ov0 hZ.2 h)
set_option maxHeartbeats 4000000 in
set_option maxRecDepth 100000 in
theorem fo_TR_listBranch_75 {K G O : Nat → Nat} {L : List Nat} {i : Nat} {out : Mm} {rc : Nat → Int32 → Int32 → Int32 → Int32 → Mm → Option (Mm)} (hrc : ∀ {out : Mm} (v0 : Nat) (v1 : Int32) (v2 : Int32) (v3 : Int32) (v4 : Int32) (M : Mm), K v0 = 6 → O v0 = i → ZI K G O L M → rc v0 v1 v2 v3 v4 M = some out → Zo K G O L i M out) : ∀ (n : Nat) (v0 : Nat) (v2 : Int32) (v3 : Int32) (v5 : Int32) (v6 : Int32) (v7 : Int32) (M : Mm), K v0 = 6 → O v0 = i → ZI K G O L M → f_TR_listBranch_75 rc G n v0 v2 v3 v5 v6 v7 M = some out → Zo K G O L i M out := by
  intro n
  induction n with
  | zero => intro _ _ _ _ _ _ _ _ _ _ h; rw [f_TR_listBranch_75] at h; cases h
  | succ n ih =>
    intro v0 v2 v3 v5 v6 v7 M hv0 ov0 hI h
    rw [f_TR_listBranch_75] at h
    have hZ := Zo.rf (i := i) hI
    rcases ifC h with ⟨_, h⟩ | ⟨_, h⟩
    · obtain rfl := Option.some.inj h
      exact hZ
    · have q1 := (u_TR_map hZ.2.1 hv0)
      have oq1 := (o_TR_map hZ.2.2 hv0 ov0)
      obtain ⟨q2, hq2, h⟩ := ob h
      obtain ⟨q3, hq3, h⟩ := ob h
      have hZ := hZ.step (hrc v0 v6 q2 (v3 + 1) v5 M hv0 ov0 hZ.2 hq3)
      exact hZ.step (ih v0 v2 v3 v5 q2 (v7 + 1) q3 hv0 ov0 hZ.2 h)
set_option maxHeartbeats 4000000 in
set_option maxRecDepth 100000 in
theorem fo_TR_listBranch {K G O : Nat → Nat} {L : List Nat} {i : Nat} {out : Mm} {rc : Nat → Int32 → Int32 → Int32 → Int32 → Mm → Option (Mm)} (hrc : ∀ {out : Mm} (v0 : Nat) (v1 : Int32) (v2 : Int32) (v3 : Int32) (v4 : Int32) (M : Mm), K v0 = 6 → O v0 = i → ZI K G O L M → rc v0 v1 v2 v3 v4 M = some out → Zo K G O L i M out) (v0 : Nat) (v1 : Int32) (v2 : Int32) (v3 : Int32) (v4 : Int32) (M : Mm) (hv0 : K v0 = 6) (ov0 : O v0 = i) (hI : ZI K G O L M) (h : f_TR_listBranch rc G v0 v1 v2 v3 v4 M = some out) : Zo K G O L i M out := by
  unfold f_TR_listBranch at h
  have hZ := Zo.rf (i := i) hI
  rcases ifC h with ⟨_, h⟩ | ⟨_, h⟩
  · obtain rfl := Option.some.inj h
    exact hZ
  · rcases ifC h with ⟨_, h⟩ | ⟨_, h⟩
    · obtain rfl := Option.some.inj h
      exact hZ
    · obtain ⟨M1, eM1, h⟩ := stE h
      have hZ := z_si hZ eM1 ov0
      have q2 := (u_TR_firstRow hZ.2.1 hv0)
      have oq2 := (o_TR_firstRow hZ.2.2 hv0 ov0)
      obtain ⟨j3, hj3, h⟩ := ob h
      obtain ⟨M4, eM4, h⟩ := stE h
      have hZ := z_si hZ eM4 oq2
      have q5 := (u_TR_endRow hZ.2.1 hv0)
      have oq5 := (o_TR_endRow hZ.2.2 hv0 ov0)
      obtain ⟨j6, hj6, h⟩ := ob h
      obtain ⟨M7, eM7, h⟩ := stE h
      have hZ := z_si hZ eM7 oq5
      have q8 := (u_TR_depth hZ.2.1 hv0)
      have oq8 := (o_TR_depth hZ.2.2 hv0 ov0)
      obtain ⟨j9, hj9, h⟩ := ob h
      obtain ⟨M10, eM10, h⟩ := stE h
      have hZ := z_si hZ eM10 oq8
      have q11 := (u_TR_parent hZ.2.1 hv0)
      have oq11 := (o_TR_parent hZ.2.2 hv0 ov0)
      obtain ⟨j12, hj12, h⟩ := ob h
      obtain ⟨M13, eM13, h⟩ := stE h
      have hZ := z_si hZ eM13 oq11
      obtain ⟨q14, hq14, h⟩ := ob h
      exact hZ.step (fo_TR_listBranch_75 hrc FU v0 v2 v3 (gi M v0 3) q14 0 M13 hv0 ov0 hZ.2 h)
set_option maxHeartbeats 4000000 in
set_option maxRecDepth 100000 in
theorem fo_TR_listPart {K G O : Nat → Nat} {L : List Nat} {i : Nat} {out : Mm} {rc : Nat → Int32 → Int32 → Int32 → Int32 → Mm → Option (Mm)} (hrc : ∀ {out : Mm} (v0 : Nat) (v1 : Int32) (v2 : Int32) (v3 : Int32) (v4 : Int32) (M : Mm), K v0 = 6 → O v0 = i → ZI K G O L M → rc v0 v1 v2 v3 v4 M = some out → Zo K G O L i M out) (v0 : Nat) (v1 : Int32) (v2 : Int32) (v3 : Int32) (v4 : Int32) (M : Mm) (hv0 : K v0 = 6) (ov0 : O v0 = i) (hI : ZI K G O L M) (h : f_TR_listPart rc G v0 v1 v2 v3 v4 M = some out) : Zo K G O L i M out := by
  unfold f_TR_listPart at h
  have hZ := Zo.rf (i := i) hI
  rcases ifC h with ⟨_, h⟩ | ⟨_, h⟩
  · obtain rfl := Option.some.inj h
    exact hZ
  · rcases ifC h with ⟨_, h⟩ | ⟨_, h⟩
    · obtain ⟨M11, eM11, h⟩ := stE h
      have hZ := z_si hZ eM11 ov0
      obtain rfl := Option.some.inj h
      exact hZ
    · have q1 := (u_TR_map hZ.2.1 hv0)
      have oq1 := (o_TR_map hZ.2.2 hv0 ov0)
      have q2 := (u_PM_paths hZ.2.1 q1)
      have oq2 := (o_PM_paths hZ.2.2 q1 oq1)
      obtain ⟨j3, hj3, h⟩ := ob h
      have q4 := (u_TR_map hZ.2.1 hv0)
      have oq4 := (o_TR_map hZ.2.2 hv0 ov0)
      have q5 := (u_PM_paths hZ.2.1 q4)
      have oq5 := (o_PM_paths hZ.2.2 q4 oq4)
      obtain ⟨j6, hj6, h⟩ := ob h
      obtain ⟨q7, hq7, h⟩ := ob h
      rcases ifC h with ⟨_, h⟩ | ⟨_, h⟩
      · obtain ⟨q8, hq8, h⟩ := ob h
        have hZ := hZ.step (fo_TR_listBranch hrc v0 v1 v2 q7 v4 M hv0 ov0 hZ.2 hq8)
        obtain rfl := Option.some.inj h
        exact hZ
      · obtain ⟨M9, eM9, h⟩ := stE h
        have hZ := z_si hZ eM9 ov0
        obtain ⟨q10, hq10, h⟩ := ob h
        have hZ := hZ.step (fo_TR_listBranch hrc v0 v1 v2 q7 v4 M9 hv0 ov0 hZ.2 hq10)
        obtain rfl := Option.some.inj h
        exact hZ
set_option maxHeartbeats 4000000 in
set_option maxRecDepth 100000 in
theorem FO_TR_listPart {K G O : Nat → Nat} {L : List Nat} {i : Nat} : ∀ (d : Nat), ∀ {out : Mm} (v0 : Nat) (v1 : Int32) (v2 : Int32) (v3 : Int32) (v4 : Int32) (M : Mm), K v0 = 6 → O v0 = i → ZI K G O L M → F_TR_listPart G d v0 v1 v2 v3 v4 M = some out → Zo K G O L i M out := by
  intro d
  induction d with
  | zero => intro _ _ _ _ _ _ _ _ _ _ h; rw [F_TR_listPart] at h; cases h
  | succ d ih =>
    intro out v0 v1 v2 v3 v4 M hv0 ov0 hI h
    rw [F_TR_listPart] at h
    exact fo_TR_listPart ih v0 v1 v2 v3 v4 M hv0 ov0 hI h
set_option maxHeartbeats 4000000 in
set_option maxRecDepth 100000 in
theorem fo_TR_list {K G O : Nat → Nat} {L : List Nat} {i : Nat} {out : Mm} (v0 : Nat) (M : Mm) (hv0 : K v0 = 6) (ov0 : O v0 = i) (hI : ZI K G O L M) (h : f_TR_list G v0 M = some out) : Zo K G O L i M out := by
  unfold f_TR_list at h
  have hZ := Zo.rf (i := i) hI
  obtain ⟨M1, eM1, h⟩ := stE h
  have hZ := z_si hZ eM1 ov0
  obtain ⟨M2, eM2, h⟩ := stE h
  have hZ := z_si hZ eM2 ov0
  obtain ⟨M3, eM3, h⟩ := stE h
  have hZ := z_si hZ eM3 ov0
  have q4 := (u_TR_map hZ.2.1 hv0)
  have oq4 := (o_TR_map hZ.2.2 hv0 ov0)
  obtain ⟨q5, hq5, h⟩ := ob h
  have hZ := hZ.step (FO_TR_listPart RD v0 0 (gi M3 (gr M3 v0 0) 2) 0 (-1) M3 hv0 ov0 hZ.2 hq5)
  obtain rfl := Option.some.inj h
  exact hZ
set_option maxHeartbeats 4000000 in
set_option maxRecDepth 100000 in
theorem fo_TR_change {K G O : Nat → Nat} {L : List Nat} {i : Nat} {out : Int32 × Mm} (v0 : Nat) (v1 : Int32) (v2 : Int32) (M : Mm) (hv0 : K v0 = 6) (ov0 : O v0 = i) (hI : ZI K G O L M) (h : f_TR_change G v0 v1 v2 M = some out) : Zo K G O L i M out.2 := by
  unfold f_TR_change at h
  have hZ := Zo.rf (i := i) hI
  have q1 := (u_TR_map hZ.2.1 hv0)
  have oq1 := (o_TR_map hZ.2.2 hv0 ov0)
  obtain ⟨q2, hq2, h⟩ := ob h
  rcases ifC h with ⟨_, h⟩ | ⟨_, h⟩
  · rcases ifC h with ⟨_, h⟩ | ⟨_, h⟩
    · obtain rfl := Option.some.inj h
      exact hZ
    · have q14 := (u_TR_map hZ.2.1 hv0)
      have oq14 := (o_TR_map hZ.2.2 hv0 ov0)
      obtain ⟨q15, hq15, h⟩ := ob h
      have hZ := hZ.step (fo_PM_insert (gr M v0 0) v1 v2 M q14 oq14 hZ.2 hq15)
      obtain ⟨q16, hq16, h⟩ := ob h
      have hZ := hZ.step (fo_TR_list v0 q15 hv0 ov0 hZ.2 hq16)
      obtain rfl := Option.some.inj h
      exact hZ
  · have q3 := (u_TR_map hZ.2.1 hv0)
    have oq3 := (o_TR_map hZ.2.2 hv0 ov0)
    have q4 := (u_PM_values hZ.2.1 q3)
    have oq4 := (o_PM_values hZ.2.2 q3 oq3)
    obtain ⟨j5, hj5, h⟩ := ob h
    obtain ⟨x6, ex6, h⟩ := stE h
    rcases ifC h with ⟨_, h⟩ | ⟨_, h⟩
    · have q11 := (u_TR_map hZ.2.1 hv0)
      have oq11 := (o_TR_map hZ.2.2 hv0 ov0)
      obtain ⟨q12, hq12, h⟩ := ob h
      have hZ := hZ.step (fo_PM_remove (gr M v0 0) q2 M q11 oq11 hZ.2 hq12)
      obtain ⟨q13, hq13, h⟩ := ob h
      have hZ := hZ.step (fo_TR_list v0 q12 hv0 ov0 hZ.2 hq13)
      obtain rfl := Option.some.inj h
      exact hZ
    · have q7 := (u_TR_map hZ.2.1 hv0)
      have oq7 := (o_TR_map hZ.2.2 hv0 ov0)
      have q8 := (u_PM_values hZ.2.1 q7)
      have oq8 := (o_PM_values hZ.2.2 q7 oq7)
      obtain ⟨j9, hj9, h⟩ := ob h
      obtain ⟨M10, eM10, h⟩ := stE h
      have hZ := z_si hZ eM10 oq8
      obtain rfl := Option.some.inj h
      exact hZ
set_option maxHeartbeats 4000000 in
set_option maxRecDepth 100000 in
theorem fo_NT_put {K G O : Nat → Nat} {L : List Nat} {i : Nat} {out : Int32 × Mm} (v0 : Nat) (v1 : Int32) (v2 : Int32) (M : Mm) (hv0 : K v0 = 5) (ov0 : O v0 = i) (hI : ZI K G O L M) (h : f_NT_put G v0 v1 v2 M = some out) : Zo K G O L i M out.2 := by
  unfold f_NT_put at h
  have hZ := Zo.rf (i := i) hI
  rcases ifC h with ⟨_, h⟩ | ⟨_, h⟩
  · obtain rfl := Option.some.inj h
    exact hZ
  · have q1 := (u_NT_working hZ.2.1 hv0)
    have oq1 := (o_NT_working hZ.2.2 hv0 ov0)
    obtain ⟨q2, hq2, h⟩ := ob h
    have hZ := hZ.step (fo_TR_change (gr M v0 0) v1 v2 M q1 oq1 hZ.2 hq2)
    obtain rfl := Option.some.inj h
    exact hZ
set_option maxHeartbeats 4000000 in
set_option maxRecDepth 100000 in
theorem fo_TR_writeBranch_15 {K G O : Nat → Nat} {L : List Nat} {i : Nat} {out : Int32 × Mm} {rc : Nat → Int32 → Int32 → Int32 → Nat → Int32 → Mm → Option (Int32 × Mm)} (hrc : ∀ {out : Int32 × Mm} (v0 : Nat) (v1 : Int32) (v2 : Int32) (v3 : Int32) (v4 : Nat) (v5 : Int32) (M : Mm), K v0 = 6 → O v0 = i → K v4 = 2 → O v4 = i → ZI K G O L M → rc v0 v1 v2 v3 v4 v5 M = some out → Zo K G O L i M out.2) : ∀ (n : Nat) (v0 : Nat) (v1 : Int32) (v2 : Int32) (v3 : Int32) (v4 : Nat) (v5 : Int32) (v6 : Int32) (v7 : Int32) (v8 : Int32) (M : Mm), K v0 = 6 → O v0 = i → K v4 = 2 → O v4 = i → ZI K G O L M → f_TR_writeBranch_15 rc G n v0 v1 v2 v3 v4 v5 v6 v7 v8 M = some out → Zo K G O L i M out.2 := by
  intro n
  induction n with
  | zero => intro _ _ _ _ _ _ _ _ _ _ _ _ _ _ _ h; rw [f_TR_writeBranch_15] at h; cases h
  | succ n ih =>
    intro v0 v1 v2 v3 v4 v5 v6 v7 v8 M hv0 ov0 hv4 ov4 hI h
    rw [f_TR_writeBranch_15] at h
    have hZ := Zo.rf (i := i) hI
    rcases ifC h with ⟨_, h⟩ | ⟨_, h⟩
    · have q1 := (u_TR_map hZ.2.1 hv0)
      have oq1 := (o_TR_map hZ.2.2 hv0 ov0)
      obtain ⟨q2, hq2, h⟩ := ob h
      rcases ifC h with ⟨_, h⟩ | ⟨_, h⟩
      · obtain ⟨j3, hj3, h⟩ := ob h
        obtain ⟨M4, eM4, h⟩ := stE h
        have hZ := z_sl hZ eM4 ov4
        obtain rfl := Option.some.inj h
        exact hZ
      · have q5 := (u_TR_map hZ.2.1 hv0)
        have oq5 := (o_TR_map hZ.2.2 hv0 ov0)
        have q6 := (u_PM_values hZ.2.1 q5)
        have oq6 := (o_PM_values hZ.2.2 q5 oq5)
        obtain ⟨j7, hj7, h⟩ := ob h
        obtain ⟨j8, hj8, h⟩ := ob h
        obtain ⟨M9, eM9, h⟩ := stE h
        have hZ := z_sl hZ eM9 ov4
        obtain rfl := Option.some.inj h
        exact hZ
    · have q10 := (u_TR_map hZ.2.1 hv0)
      have oq10 := (o_TR_map hZ.2.2 hv0 ov0)
      obtain ⟨q11, hq11, h⟩ := ob h
      obtain ⟨q12, hq12, h⟩ := ob h
      have hZ := hZ.step (hrc v0 v7 q11 (v3 + 1) v4 (v6 + 1) M hv0 ov0 hv4 ov4 hZ.2 hq12)
      obtain ⟨j13, hj13, h⟩ := ob h
      obtain ⟨M14, eM14, h⟩ := stE h
      have hZ := z_sl hZ eM14 ov4
      exact hZ.step (ih v0 v1 v2 v3 v4 v5 (v6 + (1 + q12.1)) q11 (v8 + 1) M14 hv0 ov0 hv4 ov4 hZ.2 h)
set_option maxHeartbeats 4000000 in
set_option maxRecDepth 100000 in
theorem fo_TR_writeBranch {K G O : Nat → Nat} {L : List Nat} {i : Nat} {out : Int32 × Mm} {rc : Nat → Int32 → Int32 → Int32 → Nat → Int32 → Mm → Option (Int32 × Mm)} (hrc : ∀ {out : Int32 × Mm} (v0 : Nat) (v1 : Int32) (v2 : Int32) (v3 : Int32) (v4 : Nat) (v5 : Int32) (M : Mm), K v0 = 6 → O v0 = i → K v4 = 2 → O v4 = i → ZI K G O L M → rc v0 v1 v2 v3 v4 v5 M = some out → Zo K G O L i M out.2) (v0 : Nat) (v1 : Int32) (v2 : Int32) (v3 : Int32) (v4 : Nat) (v5 : Int32) (M : Mm) (hv0 : K v0 = 6) (ov0 : O v0 = i) (hv4 : K v4 = 2) (ov4 : O v4 = i) (hI : ZI K G O L M) (h : f_TR_writeBranch rc G v0 v1 v2 v3 v4 v5 M = some out) : Zo K G O L i M out.2 := by
  unfold f_TR_writeBranch at h
  have hZ := Zo.rf (i := i) hI
  obtain ⟨q1, hq1, h⟩ := ob h
  exact hZ.step (fo_TR_writeBranch_15 hrc FU v0 v1 v2 v3 v4 v5 v5 q1 0 M hv0 ov0 hv4 ov4 hZ.2 h)
set_option maxHeartbeats 4000000 in
set_option maxRecDepth 100000 in
theorem fo_TR_branchDigest {K G O : Nat → Nat} {L : List Nat} {i : Nat} {out : Int64 × Mm} {rc : Nat → Int32 → Int32 → Int32 → Nat → Int32 → Mm → Option (Int32 × Mm)} (hrc : ∀ {out : Int32 × Mm} (v0 : Nat) (v1 : Int32) (v2 : Int32) (v3 : Int32) (v4 : Nat) (v5 : Int32) (M : Mm), K v0 = 6 → O v0 = i → K v4 = 2 → O v4 = i → ZI K G O L M → rc v0 v1 v2 v3 v4 v5 M = some out → Zo K G O L i M out.2) (v0 : Nat) (v1 : Int32) (v2 : Int32) (v3 : Int32) (M : Mm) (hv0 : K v0 = 6) (ov0 : O v0 = i) (hI : ZI K G O L M) (h : f_TR_branchDigest rc G v0 v1 v2 v3 M = some out) : Zo K G O L i M out.2 := by
  unfold f_TR_branchDigest at h
  have hZ := Zo.rf (i := i) hI
  rcases ifC h with ⟨_, h⟩ | ⟨_, h⟩
  · have q1 := (u_TR_drafts hZ.2.1 hv0)
    have oq1 := (o_TR_drafts hZ.2.2 hv0 ov0)
    obtain ⟨j2, hj2, h⟩ := ob h
    have q3 := u_gel hZ.2.1 q1 hj2
    have oq3 := o_gel hZ.2.2 q1 oq1 hj2
    obtain ⟨q4, hq4, h⟩ := ob h
    have hZ := hZ.step (fo_TR_writeBranch hrc v0 v1 v2 v3 (gr M (gr M v0 9) j2) 0 M hv0 ov0 q3 oq3 hZ.2 hq4)
    obtain ⟨q5, hq5, h⟩ := ob h
    obtain rfl := Option.some.inj h
    exact hZ
  · obtain rfl := Option.some.inj h
    exact hZ
set_option maxHeartbeats 4000000 in
set_option maxRecDepth 100000 in
theorem fo_TR_writeReference {K G O : Nat → Nat} {L : List Nat} {i : Nat} {out : Int32 × Mm} {rc : Nat → Int32 → Int32 → Int32 → Nat → Int32 → Mm → Option (Int32 × Mm)} (hrc : ∀ {out : Int32 × Mm} (v0 : Nat) (v1 : Int32) (v2 : Int32) (v3 : Int32) (v4 : Nat) (v5 : Int32) (M : Mm), K v0 = 6 → O v0 = i → K v4 = 2 → O v4 = i → ZI K G O L M → rc v0 v1 v2 v3 v4 v5 M = some out → Zo K G O L i M out.2) (v0 : Nat) (v1 : Int32) (v2 : Int32) (v3 : Int32) (v4 : Nat) (v5 : Int32) (M : Mm) (hv0 : K v0 = 6) (ov0 : O v0 = i) (hv4 : K v4 = 2) (ov4 : O v4 = i) (hI : ZI K G O L M) (h : f_TR_writeReference rc G v0 v1 v2 v3 v4 v5 M = some out) : Zo K G O L i M out.2 := by
  unfold f_TR_writeReference at h
  have hZ := Zo.rf (i := i) hI
  rcases ifC h with ⟨_, h⟩ | ⟨_, h⟩
  · obtain rfl := Option.some.inj h
    exact hZ
  · rcases ifC h with ⟨_, h⟩ | ⟨_, h⟩
    · have q18 := (u_TR_map hZ.2.1 hv0)
      have oq18 := (o_TR_map hZ.2.2 hv0 ov0)
      have q19 := (u_PM_paths hZ.2.1 q18)
      have oq19 := (o_PM_paths hZ.2.2 q18 oq18)
      obtain ⟨j20, hj20, h⟩ := ob h
      obtain ⟨j21, hj21, h⟩ := ob h
      obtain ⟨M22, eM22, h⟩ := stE h
      have hZ := z_sl hZ eM22 ov4
      have q23 := (u_TR_map hZ.2.1 hv0)
      have oq23 := (o_TR_map hZ.2.2 hv0 ov0)
      have q24 := (u_PM_values hZ.2.1 q23)
      have oq24 := (o_PM_values hZ.2.2 q23 oq23)
      obtain ⟨j25, hj25, h⟩ := ob h
      obtain ⟨j26, hj26, h⟩ := ob h
      obtain ⟨M27, eM27, h⟩ := stE h
      have hZ := z_sl hZ eM27 ov4
      obtain rfl := Option.some.inj h
      exact hZ
    · have q1 := (u_TR_map hZ.2.1 hv0)
      have oq1 := (o_TR_map hZ.2.2 hv0 ov0)
      have q2 := (u_PM_paths hZ.2.1 q1)
      have oq2 := (o_PM_paths hZ.2.2 q1 oq1)
      obtain ⟨j3, hj3, h⟩ := ob h
      have q4 := (u_TR_map hZ.2.1 hv0)
      have oq4 := (o_TR_map hZ.2.2 hv0 ov0)
      have q5 := (u_PM_paths hZ.2.1 q4)
      have oq5 := (o_PM_paths hZ.2.2 q4 oq4)
      obtain ⟨j6, hj6, h⟩ := ob h
      obtain ⟨q7, hq7, h⟩ := ob h
      obtain ⟨q8, hq8, h⟩ := ob h
      have hZ := hZ.step (fo_TR_branchDigest hrc v0 v1 v2 q7 M hv0 ov0 hZ.2 hq8)
      rcases ifC h with ⟨_, h⟩ | ⟨_, h⟩
      · obtain ⟨j16, hj16, h⟩ := ob h
        obtain ⟨M17, eM17, h⟩ := stE h
        have hZ := z_sl hZ eM17 ov4
        obtain rfl := Option.some.inj h
        exact hZ
      · have q9 := (u_TR_map hZ.2.1 hv0)
        have oq9 := (o_TR_map hZ.2.2 hv0 ov0)
        have q10 := (u_PM_paths hZ.2.1 q9)
        have oq10 := (o_PM_paths hZ.2.2 q9 oq9)
        obtain ⟨j11, hj11, h⟩ := ob h
        obtain ⟨j12, hj12, h⟩ := ob h
        obtain ⟨M13, eM13, h⟩ := stE h
        have hZ := z_sl hZ eM13 ov4
        obtain ⟨j14, hj14, h⟩ := ob h
        obtain ⟨M15, eM15, h⟩ := stE h
        have hZ := z_sl hZ eM15 ov4
        obtain rfl := Option.some.inj h
        exact hZ
set_option maxHeartbeats 4000000 in
set_option maxRecDepth 100000 in
theorem FO_TR_writeReference {K G O : Nat → Nat} {L : List Nat} {i : Nat} : ∀ (d : Nat), ∀ {out : Int32 × Mm} (v0 : Nat) (v1 : Int32) (v2 : Int32) (v3 : Int32) (v4 : Nat) (v5 : Int32) (M : Mm), K v0 = 6 → O v0 = i → K v4 = 2 → O v4 = i → ZI K G O L M → F_TR_writeReference G d v0 v1 v2 v3 v4 v5 M = some out → Zo K G O L i M out.2 := by
  intro d
  induction d with
  | zero => intro _ _ _ _ _ _ _ _ _ _ _ _ _ h; rw [F_TR_writeReference] at h; cases h
  | succ d ih =>
    intro out v0 v1 v2 v3 v4 v5 M hv0 ov0 hv4 ov4 hI h
    rw [F_TR_writeReference] at h
    exact fo_TR_writeReference ih v0 v1 v2 v3 v4 v5 M hv0 ov0 hv4 ov4 hI h
set_option maxHeartbeats 4000000 in
set_option maxRecDepth 100000 in
theorem fo_TR_rootNumber {K G O : Nat → Nat} {L : List Nat} {i : Nat} {out : Int64 × Mm} (v0 : Nat) (M : Mm) (hv0 : K v0 = 6) (ov0 : O v0 = i) (hI : ZI K G O L M) (h : f_TR_rootNumber G v0 M = some out) : Zo K G O L i M out.2 := by
  unfold f_TR_rootNumber at h
  have hZ := Zo.rf (i := i) hI
  have q1 := (u_TR_map hZ.2.1 hv0)
  have oq1 := (o_TR_map hZ.2.2 hv0 ov0)
  have q2 := (u_TR_topReference hZ.2.1 hv0)
  have oq2 := (o_TR_topReference hZ.2.2 hv0 ov0)
  obtain ⟨q3, hq3, h⟩ := ob h
  have hZ := hZ.step (FO_TR_writeReference RD v0 0 (gi M (gr M v0 0) 2) 0 (gr M v0 8) 0 M hv0 ov0 q2 oq2 hZ.2 hq3)
  have q4 := (u_TR_topReference hZ.2.1 hv0)
  have oq4 := (o_TR_topReference hZ.2.2 hv0 ov0)
  obtain ⟨q5, hq5, h⟩ := ob h
  obtain rfl := Option.some.inj h
  exact hZ
set_option maxHeartbeats 4000000 in
set_option maxRecDepth 100000 in
theorem fo_NT_root {K G O : Nat → Nat} {L : List Nat} {i : Nat} {out : Int64 × Mm} (v0 : Nat) (M : Mm) (hv0 : K v0 = 5) (ov0 : O v0 = i) (hI : ZI K G O L M) (h : f_NT_root G v0 M = some out) : Zo K G O L i M out.2 := by
  unfold f_NT_root at h
  have hZ := Zo.rf (i := i) hI
  have q1 := (u_NT_working hZ.2.1 hv0)
  have oq1 := (o_NT_working hZ.2.2 hv0 ov0)
  obtain ⟨q2, hq2, h⟩ := ob h
  have hZ := hZ.step (fo_TR_rootNumber (gr M v0 0) M q1 oq1 hZ.2 hq2)
  obtain rfl := Option.some.inj h
  exact hZ
set_option maxHeartbeats 4000000 in
set_option maxRecDepth 100000 in
theorem fo_PM_copy {K G O : Nat → Nat} {L : List Nat} {i : Nat} {out : Mm} (v0 : Nat) (v1 : Nat) (M : Mm) (hv0 : K v0 = 7) (ov0 : O v0 = i) (hv1 : K v1 = 7) (ov1 : O v1 = i) (hI : ZI K G O L M) (h : f_PM_copy G v0 v1 M = some out) : Zo K G O L i M out := by
  unfold f_PM_copy at h
  have hZ := Zo.rf (i := i) hI
  obtain ⟨M1, eM1, h⟩ := stE h
  have hZ := z_si hZ eM1 ov0
  have q2 := (u_PM_paths hZ.2.1 hv1)
  have oq2 := (o_PM_paths hZ.2.2 hv1 ov1)
  have q3 := (u_PM_paths hZ.2.1 hv0)
  have oq3 := (o_PM_paths hZ.2.2 hv0 ov0)
  obtain ⟨M4, hM4, h⟩ := ob h
  have hZ := z_cp hZ hM4 oq3
  have q5 := (u_PM_values hZ.2.1 hv1)
  have oq5 := (o_PM_values hZ.2.2 hv1 ov1)
  have q6 := (u_PM_values hZ.2.1 hv0)
  have oq6 := (o_PM_values hZ.2.2 hv0 ov0)
  obtain ⟨M7, hM7, h⟩ := ob h
  have hZ := z_cp hZ hM7 oq6
  obtain rfl := Option.some.inj h
  exact hZ
set_option maxHeartbeats 4000000 in
set_option maxRecDepth 100000 in
theorem fo_TR_becomeLike {K G O : Nat → Nat} {L : List Nat} {i : Nat} {out : Mm} (v0 : Nat) (v1 : Nat) (M : Mm) (hv0 : K v0 = 6) (ov0 : O v0 = i) (hv1 : K v1 = 6) (ov1 : O v1 = i) (hI : ZI K G O L M) (h : f_TR_becomeLike G v0 v1 M = some out) : Zo K G O L i M out := by
  unfold f_TR_becomeLike at h
  have hZ := Zo.rf (i := i) hI
  have q1 := (u_TR_map hZ.2.1 hv0)
  have oq1 := (o_TR_map hZ.2.2 hv0 ov0)
  have q2 := (u_TR_map hZ.2.1 hv1)
  have oq2 := (o_TR_map hZ.2.2 hv1 ov1)
  obtain ⟨q3, hq3, h⟩ := ob h
  have hZ := hZ.step (fo_PM_copy (gr M v0 0) (gr M v1 0) M q1 oq1 q2 oq2 hZ.2 hq3)
  obtain ⟨M4, eM4, h⟩ := stE h
  have hZ := z_si hZ eM4 ov0
  obtain ⟨M5, eM5, h⟩ := stE h
  have hZ := z_si hZ eM5 ov0
  obtain ⟨M6, eM6, h⟩ := stE h
  have hZ := z_si hZ eM6 ov0
  have q7 := (u_TR_parent hZ.2.1 hv1)
  have oq7 := (o_TR_parent hZ.2.2 hv1 ov1)
  have q8 := (u_TR_parent hZ.2.1 hv0)
  have oq8 := (o_TR_parent hZ.2.2 hv0 ov0)
  obtain ⟨M9, hM9, h⟩ := ob h
  have hZ := z_cp hZ hM9 oq8
  have q10 := (u_TR_firstRow hZ.2.1 hv1)
  have oq10 := (o_TR_firstRow hZ.2.2 hv1 ov1)
  have q11 := (u_TR_firstRow hZ.2.1 hv0)
  have oq11 := (o_TR_firstRow hZ.2.2 hv0 ov0)
  obtain ⟨M12, hM12, h⟩ := ob h
  have hZ := z_cp hZ hM12 oq11
  have q13 := (u_TR_endRow hZ.2.1 hv1)
  have oq13 := (o_TR_endRow hZ.2.2 hv1 ov1)
  have q14 := (u_TR_endRow hZ.2.1 hv0)
  have oq14 := (o_TR_endRow hZ.2.2 hv0 ov0)
  obtain ⟨M15, hM15, h⟩ := ob h
  have hZ := z_cp hZ hM15 oq14
  have q16 := (u_TR_depth hZ.2.1 hv1)
  have oq16 := (o_TR_depth hZ.2.2 hv1 ov1)
  have q17 := (u_TR_depth hZ.2.1 hv0)
  have oq17 := (o_TR_depth hZ.2.2 hv0 ov0)
  obtain ⟨M18, hM18, h⟩ := ob h
  have hZ := z_cp hZ hM18 oq17
  obtain rfl := Option.some.inj h
  exact hZ
set_option maxHeartbeats 4000000 in
set_option maxRecDepth 100000 in
theorem fo_NT_goDown {K G O : Nat → Nat} {L : List Nat} {i : Nat} {out : Mm} (v0 : Nat) (M : Mm) (hv0 : K v0 = 5) (ov0 : O v0 = i) (hI : ZI K G O L M) (h : f_NT_goDown G v0 M = some out) : Zo K G O L i M out := by
  unfold f_NT_goDown at h
  have hZ := Zo.rf (i := i) hI
  have q1 := (u_NT_working hZ.2.1 hv0)
  have oq1 := (o_NT_working hZ.2.2 hv0 ov0)
  have q2 := (u_NT_kept hZ.2.1 hv0)
  have oq2 := (o_NT_kept hZ.2.2 hv0 ov0)
  obtain ⟨j3, hj3, h⟩ := ob h
  have q4 := u_tel hZ.2.1 q2 hj3
  have oq4 := o_tel hZ.2.2 q2 oq2 hj3
  obtain ⟨q5, hq5, h⟩ := ob h
  have hZ := hZ.step (fo_TR_becomeLike (gr M v0 0) (gr M (gr M v0 1) j3) M q1 oq1 q4 oq4 hZ.2 hq5)
  obtain rfl := Option.some.inj h
  exact hZ
set_option maxHeartbeats 4000000 in
set_option maxRecDepth 100000 in
theorem fo_NT_keepWorking_17 {K G O : Nat → Nat} {L : List Nat} {i : Nat} {out : Mm} : ∀ (n : Nat) (v0 : Nat) (v2 : Nat) (v3 : Int32) (M : Mm), K v0 = 5 → O v0 = i → K v2 = 6 → O v2 = i → ZI K G O L M → f_NT_keepWorking_17 G n v0 v2 v3 M = some out → Zo K G O L i M out := by
  intro n
  induction n with
  | zero => intro _ _ _ _ _ _ _ _ _ h; rw [f_NT_keepWorking_17] at h; cases h
  | succ n ih =>
    intro v0 v2 v3 M hv0 ov0 hv2 ov2 hI h
    rw [f_NT_keepWorking_17] at h
    have hZ := Zo.rf (i := i) hI
    rcases ifC h with ⟨_, h⟩ | ⟨_, h⟩
    · have q1 := (u_NT_kept hZ.2.1 hv0)
      have oq1 := (o_NT_kept hZ.2.2 hv0 ov0)
      obtain ⟨j2, hj2, h⟩ := ob h
      obtain ⟨M3, eM3, h⟩ := stE h
      have hZ := z_sr hZ eM3 q1 oq1 hv2 ov2
      have q4 := (u_NT_working hZ.2.1 hv0)
      have oq4 := (o_NT_working hZ.2.2 hv0 ov0)
      obtain ⟨q5, hq5, h⟩ := ob h
      have hZ := hZ.step (fo_TR_becomeLike v2 (gr M3 v0 0) M3 hv2 ov2 q4 oq4 hZ.2 hq5)
      have q6 := (u_NT_kept hZ.2.1 hv0)
      have oq6 := (o_NT_kept hZ.2.2 hv0 ov0)
      obtain ⟨M7, eM7, h⟩ := stE h
      have hZ := z_si hZ eM7 ov0
      obtain rfl := Option.some.inj h
      exact hZ
    · have q8 := (u_NT_kept hZ.2.1 hv0)
      have oq8 := (o_NT_kept hZ.2.2 hv0 ov0)
      have q9 := (u_NT_kept hZ.2.1 hv0)
      have oq9 := (o_NT_kept hZ.2.2 hv0 ov0)
      obtain ⟨j10, hj10, h⟩ := ob h
      have q11 := u_tel hZ.2.1 q9 hj10
      have oq11 := o_tel hZ.2.2 q9 oq9 hj10
      obtain ⟨j12, hj12, h⟩ := ob h
      obtain ⟨M13, eM13, h⟩ := stE h
      have hZ := z_sr hZ eM13 q8 oq8 q11 oq11
      exact hZ.step (ih v0 v2 (v3 + (-1)) M13 hv0 ov0 hv2 ov2 hZ.2 h)
set_option maxHeartbeats 4000000 in
set_option maxRecDepth 100000 in
theorem fo_NT_keepWorking {K G O : Nat → Nat} {L : List Nat} {i : Nat} {out : Mm} (v0 : Nat) (M : Mm) (hv0 : K v0 = 5) (ov0 : O v0 = i) (hI : ZI K G O L M) (h : f_NT_keepWorking G v0 M = some out) : Zo K G O L i M out := by
  unfold f_NT_keepWorking at h
  have hZ := Zo.rf (i := i) hI
  have q1 := (u_NT_kept hZ.2.1 hv0)
  have oq1 := (o_NT_kept hZ.2.2 hv0 ov0)
  obtain ⟨x2, ex2, h⟩ := stE h
  have q3 := (u_NT_kept hZ.2.1 hv0)
  have oq3 := (o_NT_kept hZ.2.2 hv0 ov0)
  obtain ⟨j4, hj4, h⟩ := ob h
  have q5 := u_tel hZ.2.1 q3 hj4
  have oq5 := o_tel hZ.2.2 q3 oq3 hj4
  exact hZ.step (fo_NT_keepWorking_17 FU v0 (gr M (gr M v0 1) j4) x2 M hv0 ov0 q5 oq5 hZ.2 h)
set_option maxHeartbeats 4000000 in
set_option maxRecDepth 100000 in
theorem fo_NT_commit {K G O : Nat → Nat} {L : List Nat} {i : Nat} {out : Int32 × Mm} (v0 : Nat) (v1 : Int32) (M : Mm) (hv0 : K v0 = 5) (ov0 : O v0 = i) (hI : ZI K G O L M) (h : f_NT_commit G v0 v1 M = some out) : Zo K G O L i M out.2 := by
  unfold f_NT_commit at h
  have hZ := Zo.rf (i := i) hI
  obtain ⟨q1, hq1, h⟩ := ob h
  rcases ifC h with ⟨_, h⟩ | ⟨_, h⟩
  · obtain ⟨q2, hq2, h⟩ := ob h
    have hZ := hZ.step (fo_NT_keepWorking v0 M hv0 ov0 hZ.2 hq2)
    obtain rfl := Option.some.inj h
    exact hZ
  · obtain ⟨q3, hq3, h⟩ := ob h
    have hZ := hZ.step (fo_NT_goDown v0 M hv0 ov0 hZ.2 hq3)
    obtain rfl := Option.some.inj h
    exact hZ
set_option maxHeartbeats 4000000 in
set_option maxRecDepth 100000 in
theorem fo_NT_crash {K G O : Nat → Nat} {L : List Nat} {i : Nat} {out : Int32 × Mm} (v0 : Nat) (M : Mm) (hv0 : K v0 = 5) (ov0 : O v0 = i) (hI : ZI K G O L M) (h : f_NT_crash G v0 M = some out) : Zo K G O L i M out.2 := by
  unfold f_NT_crash at h
  have hZ := Zo.rf (i := i) hI
  obtain ⟨q1, hq1, h⟩ := ob h
  have hZ := hZ.step (fo_NT_goDown v0 M hv0 ov0 hZ.2 hq1)
  have q2 := (u_NT_working hZ.2.1 hv0)
  have oq2 := (o_NT_working hZ.2.2 hv0 ov0)
  have q3 := (u_TR_map hZ.2.1 q2)
  have oq3 := (o_TR_map hZ.2.2 q2 oq2)
  obtain rfl := Option.some.inj h
  exact hZ
set_option maxHeartbeats 4000000 in
set_option maxRecDepth 100000 in
theorem fo_NT_rootAt {K G O : Nat → Nat} {L : List Nat} {i : Nat} {out : Int64 × Mm} (v0 : Nat) (v1 : Int32) (M : Mm) (hv0 : K v0 = 5) (ov0 : O v0 = i) (hI : ZI K G O L M) (h : f_NT_rootAt G v0 v1 M = some out) : Zo K G O L i M out.2 := by
  unfold f_NT_rootAt at h
  have hZ := Zo.rf (i := i) hI
  rcases ifC h with ⟨_, h⟩ | ⟨_, h⟩
  · obtain rfl := Option.some.inj h
    exact hZ
  · have q1 := (u_NT_kept hZ.2.1 hv0)
    have oq1 := (o_NT_kept hZ.2.2 hv0 ov0)
    obtain ⟨j2, hj2, h⟩ := ob h
    have q3 := u_tel hZ.2.1 q1 hj2
    have oq3 := o_tel hZ.2.2 q1 oq1 hj2
    obtain ⟨q4, hq4, h⟩ := ob h
    have hZ := hZ.step (fo_TR_rootNumber (gr M (gr M v0 1) j2) M q3 oq3 hZ.2 hq4)
    obtain rfl := Option.some.inj h
    exact hZ
set_option maxHeartbeats 4000000 in
set_option maxRecDepth 100000 in
theorem fo_TR_digestOf {K G O : Nat → Nat} {L : List Nat} {i : Nat} {out : Int64 × Mm} (v0 : Nat) (v1 : Int32) (M : Mm) (hv0 : K v0 = 6) (ov0 : O v0 = i) (hI : ZI K G O L M) (h : f_TR_digestOf G v0 v1 M = some out) : Zo K G O L i M out.2 := by
  unfold f_TR_digestOf at h
  have hZ := Zo.rf (i := i) hI
  have q1 := (u_TR_firstRow hZ.2.1 hv0)
  have oq1 := (o_TR_firstRow hZ.2.2 hv0 ov0)
  obtain ⟨j2, hj2, h⟩ := ob h
  have q3 := (u_TR_endRow hZ.2.1 hv0)
  have oq3 := (o_TR_endRow hZ.2.2 hv0 ov0)
  obtain ⟨j4, hj4, h⟩ := ob h
  have q5 := (u_TR_depth hZ.2.1 hv0)
  have oq5 := (o_TR_depth hZ.2.2 hv0 ov0)
  obtain ⟨j6, hj6, h⟩ := ob h
  obtain ⟨q7, hq7, h⟩ := ob h
  have hZ := hZ.step (fo_TR_branchDigest (FO_TR_writeReference RD) v0 (gi M (gr M v0 5) j2) (gi M (gr M v0 6) j4) (gi M (gr M v0 7) j6) M hv0 ov0 hZ.2 hq7)
  obtain rfl := Option.some.inj h
  exact hZ
set_option maxHeartbeats 4000000 in
set_option maxRecDepth 100000 in
theorem fo_NT_uses_17 {K G O : Nat → Nat} {L : List Nat} {i : Nat} {out : Int32 × Mm} (k5 : Nat → Int64 → Int32 → Int32 → Mm → Option (Int32 × Mm)) (hk5 : ∀ (v0 : Nat) (v1 : Int64) (v3 : Int32) (v4 : Int32) (M : Mm), K v0 = 5 → O v0 = i → ZI K G O L M → k5 v0 v1 v3 v4 M = some out → Zo K G O L i M out.2) : ∀ (n : Nat) (v0 : Nat) (v1 : Int64) (v3 : Int32) (v4 : Int32) (v5 : Int32) (M : Mm), K v0 = 5 → O v0 = i → ZI K G O L M → f_NT_uses_17 G k5 n v0 v1 v3 v4 v5 M = some out → Zo K G O L i M out.2 := by
  intro n
  induction n with
  | zero => intro _ _ _ _ _ _ _ _ _ h; rw [f_NT_uses_17] at h; cases h
  | succ n ih =>
    intro v0 v1 v3 v4 v5 M hv0 ov0 hI h
    rw [f_NT_uses_17] at h
    have hZ := Zo.rf (i := i) hI
    have q1 := (u_NT_kept hZ.2.1 hv0)
    have oq1 := (o_NT_kept hZ.2.2 hv0 ov0)
    obtain ⟨j2, hj2, h⟩ := ob h
    have q3 := u_tel hZ.2.1 q1 hj2
    have oq3 := o_tel hZ.2.2 q1 oq1 hj2
    rcases ifC h with ⟨_, h⟩ | ⟨_, h⟩
    · exact hZ.step (hk5 v0 v1 v3 (v4 + 1) M hv0 ov0 hZ.2 h)
    · obtain ⟨q4, hq4, h⟩ := ob h
      rcases ifC h with ⟨_, h⟩ | ⟨_, h⟩
      · exact hZ.step (ih v0 v1 v3 v4 (v5 + 1) M hv0 ov0 hZ.2 h)
      · have q5 := (u_NT_kept hZ.2.1 hv0)
        have oq5 := (o_NT_kept hZ.2.2 hv0 ov0)
        obtain ⟨j6, hj6, h⟩ := ob h
        have q7 := u_tel hZ.2.1 q5 hj6
        have oq7 := o_tel hZ.2.2 q5 oq5 hj6
        obtain ⟨q8, hq8, h⟩ := ob h
        have hZ := hZ.step (fo_TR_digestOf (gr M (gr M v0 1) j6) v5 M q7 oq7 hZ.2 hq8)
        rcases ifC h with ⟨_, h⟩ | ⟨_, h⟩
        · exact hZ.step (ih v0 v1 (v3 + 1) v4 (v5 + 1) q8.2 hv0 ov0 hZ.2 h)
        · exact hZ.step (ih v0 v1 v3 v4 (v5 + 1) q8.2 hv0 ov0 hZ.2 h)
set_option maxHeartbeats 4000000 in
set_option maxRecDepth 100000 in
theorem fo_NT_uses_5 {K G O : Nat → Nat} {L : List Nat} {i : Nat} {out : Int32 × Mm} : ∀ (n : Nat) (v0 : Nat) (v1 : Int64) (v3 : Int32) (v4 : Int32) (M : Mm), K v0 = 5 → O v0 = i → ZI K G O L M → f_NT_uses_5 G n v0 v1 v3 v4 M = some out → Zo K G O L i M out.2 := by
  intro n
  induction n with
  | zero => intro _ _ _ _ _ _ _ _ h; rw [f_NT_uses_5] at h; cases h
  | succ n ih =>
    intro v0 v1 v3 v4 M hv0 ov0 hI h
    rw [f_NT_uses_5] at h
    have hZ := Zo.rf (i := i) hI
    rcases ifC h with ⟨_, h⟩ | ⟨_, h⟩
    · obtain rfl := Option.some.inj h
      exact hZ
    · exact hZ.step (fo_NT_uses_17 _ ih FU v0 v1 v3 v4 0 M hv0 ov0 hZ.2 h)
set_option maxHeartbeats 4000000 in
set_option maxRecDepth 100000 in
theorem fo_NT_uses {K G O : Nat → Nat} {L : List Nat} {i : Nat} {out : Int32 × Mm} (v0 : Nat) (v1 : Int64) (M : Mm) (hv0 : K v0 = 5) (ov0 : O v0 = i) (hI : ZI K G O L M) (h : f_NT_uses G v0 v1 M = some out) : Zo K G O L i M out.2 := by
  unfold f_NT_uses at h
  have hZ := Zo.rf (i := i) hI
  exact hZ.step (fo_NT_uses_5 FU v0 v1 0 0 M hv0 ov0 hZ.2 h)
set_option maxHeartbeats 4000000 in
set_option maxRecDepth 100000 in
theorem fo_TR_writeProof_29 {K G O : Nat → Nat} {L : List Nat} {i : Nat} {out : Int32 × Mm} : ∀ (n : Nat) (v0 : Nat) (v1 : Int32) (v2 : Nat) (v4 : Int32) (v5 : Int32) (M : Mm), K v0 = 6 → O v0 = i → K v2 = 2 → O v2 = i → ZI K G O L M → f_TR_writeProof_29 G n v0 v1 v2 v4 v5 M = some out → Zo K G O L i M out.2 := by
  intro n
  induction n with
  | zero => intro _ _ _ _ _ _ _ _ _ _ _ h; rw [f_TR_writeProof_29] at h; cases h
  | succ n ih =>
    intro v0 v1 v2 v4 v5 M hv0 ov0 hv2 ov2 hI h
    rw [f_TR_writeProof_29] at h
    have hZ := Zo.rf (i := i) hI
    rcases ifC h with ⟨_, h⟩ | ⟨_, h⟩
    · obtain rfl := Option.some.inj h
      exact hZ
    · obtain ⟨q1, hq1, h⟩ := ob h
      rcases ifC h with ⟨_, h⟩ | ⟨_, h⟩
      · exact hZ.step (ih v0 v1 v2 v4 (v5 + 1) M hv0 ov0 hv2 ov2 hZ.2 h)
      · have q2 := (u_TR_firstRow hZ.2.1 hv0)
        have oq2 := (o_TR_firstRow hZ.2.2 hv0 ov0)
        obtain ⟨j3, hj3, h⟩ := ob h
        have q4 := (u_TR_endRow hZ.2.1 hv0)
        have oq4 := (o_TR_endRow hZ.2.2 hv0 ov0)
        obtain ⟨j5, hj5, h⟩ := ob h
        have q6 := (u_TR_depth hZ.2.1 hv0)
        have oq6 := (o_TR_depth hZ.2.2 hv0 ov0)
        obtain ⟨j7, hj7, h⟩ := ob h
        obtain ⟨q8, hq8, h⟩ := ob h
        have hZ := hZ.step (fo_TR_writeBranch (FO_TR_writeReference RD) v0 (gi M (gr M v0 5) j3) (gi M (gr M v0 6) j5) (gi M (gr M v0 7) j7) v2 v4 M hv0 ov0 hv2 ov2 hZ.2 hq8)
        exact hZ.step (ih v0 v1 v2 (v4 + q8.1) (v5 + 1) q8.2 hv0 ov0 hv2 ov2 hZ.2 h)
set_option maxHeartbeats 4000000 in
set_option maxRecDepth 100000 in
theorem fo_TR_writeProof {K G O : Nat → Nat} {L : List Nat} {i : Nat} {out : Int32 × Mm} (v0 : Nat) (v1 : Int32) (v2 : Nat) (M : Mm) (hv0 : K v0 = 6) (ov0 : O v0 = i) (hv2 : K v2 = 2) (ov2 : O v2 = i) (hI : ZI K G O L M) (h : f_TR_writeProof G v0 v1 v2 M = some out) : Zo K G O L i M out.2 := by
  unfold f_TR_writeProof at h
  have hZ := Zo.rf (i := i) hI
  have q1 := (u_TR_map hZ.2.1 hv0)
  have oq1 := (o_TR_map hZ.2.2 hv0 ov0)
  obtain ⟨q2, hq2, h⟩ := ob h
  have hZ := hZ.step (FO_TR_writeReference RD v0 0 (gi M (gr M v0 0) 2) 0 v2 1 M hv0 ov0 hv2 ov2 hZ.2 hq2)
  obtain ⟨j3, hj3, h⟩ := ob h
  obtain ⟨M4, eM4, h⟩ := stE h
  have hZ := z_sl hZ eM4 ov2
  exact hZ.step (fo_TR_writeProof_29 FU v0 v1 v2 (1 + q2.1) 0 M4 hv0 ov0 hv2 ov2 hZ.2 h)
set_option maxHeartbeats 4000000 in
set_option maxRecDepth 100000 in
theorem fo_NT_prove {K G O : Nat → Nat} {L : List Nat} {i : Nat} {out : Int32 × Mm} (v0 : Nat) (v1 : Int32) (v2 : Int32) (M : Mm) (hv0 : K v0 = 5) (ov0 : O v0 = i) (hI : ZI K G O L M) (h : f_NT_prove G v0 v1 v2 M = some out) : Zo K G O L i M out.2 := by
  unfold f_NT_prove at h
  have hZ := Zo.rf (i := i) hI
  rcases ifC h with ⟨_, h⟩ | ⟨_, h⟩
  · obtain rfl := Option.some.inj h
    exact hZ
  · rcases ifC h with ⟨_, h⟩ | ⟨_, h⟩
    · obtain rfl := Option.some.inj h
      exact hZ
    · have q1 := (u_NT_proof hZ.2.1 hv0)
      have oq1 := (o_NT_proof hZ.2.2 hv0 ov0)
      have q2 := (u_NT_kept hZ.2.1 hv0)
      have oq2 := (o_NT_kept hZ.2.2 hv0 ov0)
      obtain ⟨j3, hj3, h⟩ := ob h
      have q4 := u_tel hZ.2.1 q2 hj3
      have oq4 := o_tel hZ.2.2 q2 oq2 hj3
      have q5 := (u_NT_proof hZ.2.1 hv0)
      have oq5 := (o_NT_proof hZ.2.2 hv0 ov0)
      have q6 := (u_PF_words hZ.2.1 q5)
      have oq6 := (o_PF_words hZ.2.2 q5 oq5)
      obtain ⟨q7, hq7, h⟩ := ob h
      have hZ := hZ.step (fo_TR_writeProof (gr M (gr M v0 1) j3) v2 (gr M (gr M v0 3) 0) M q4 oq4 q6 oq6 hZ.2 hq7)
      obtain ⟨M8, eM8, h⟩ := stE h
      have hZ := z_si hZ eM8 oq1
      have q9 := (u_NT_proof hZ.2.1 hv0)
      have oq9 := (o_NT_proof hZ.2.2 hv0 ov0)
      obtain rfl := Option.some.inj h
      exact hZ
set_option maxHeartbeats 4000000 in
set_option maxRecDepth 100000 in
theorem fo_NT_alter {K G O : Nat → Nat} {L : List Nat} {i : Nat} {out : Int32 × Mm} (v0 : Nat) (v1 : Int32) (v2 : Int64) (M : Mm) (hv0 : K v0 = 5) (ov0 : O v0 = i) (hI : ZI K G O L M) (h : f_NT_alter G v0 v1 v2 M = some out) : Zo K G O L i M out.2 := by
  unfold f_NT_alter at h
  have hZ := Zo.rf (i := i) hI
  have q1 := (u_NT_proof hZ.2.1 hv0)
  have oq1 := (o_NT_proof hZ.2.2 hv0 ov0)
  rcases ifC h with ⟨_, h⟩ | ⟨_, h⟩
  · obtain rfl := Option.some.inj h
    exact hZ
  · have q2 := (u_NT_proof hZ.2.1 hv0)
    have oq2 := (o_NT_proof hZ.2.2 hv0 ov0)
    have q3 := (u_PF_words hZ.2.1 q2)
    have oq3 := (o_PF_words hZ.2.2 q2 oq2)
    obtain ⟨j4, hj4, h⟩ := ob h
    obtain ⟨M5, eM5, h⟩ := stE h
    have hZ := z_sl hZ eM5 oq3
    obtain rfl := Option.some.inj h
    exact hZ
set_option maxHeartbeats 4000000 in
set_option maxRecDepth 100000 in
theorem fo_NT_cut {K G O : Nat → Nat} {L : List Nat} {i : Nat} {out : Int32 × Mm} (v0 : Nat) (M : Mm) (hv0 : K v0 = 5) (ov0 : O v0 = i) (hI : ZI K G O L M) (h : f_NT_cut G v0 M = out) : Zo K G O L i M out.2 := by
  unfold f_NT_cut at h
  have hZ := Zo.rf (i := i) hI
  have q1 := (u_NT_proof hZ.2.1 hv0)
  have oq1 := (o_NT_proof hZ.2.2 hv0 ov0)
  rcases ifC h with ⟨_, h⟩ | ⟨_, h⟩
  · have q2 := (u_NT_proof hZ.2.1 hv0)
    have oq2 := (o_NT_proof hZ.2.2 hv0 ov0)
    subst h
    exact hZ
  · have q3 := (u_NT_proof hZ.2.1 hv0)
    have oq3 := (o_NT_proof hZ.2.2 hv0 ov0)
    obtain ⟨M4, eM4, h⟩ := stE h
    have hZ := z_si hZ eM4 oq3
    have q5 := (u_NT_proof hZ.2.1 hv0)
    have oq5 := (o_NT_proof hZ.2.2 hv0 ov0)
    subst h
    exact hZ
set_option maxHeartbeats 4000000 in
set_option maxRecDepth 100000 in
theorem fo_PF_end {K G O : Nat → Nat} {L : List Nat} {i : Nat} {out : Mm} (v0 : Nat) (v1 : Int64) (M : Mm) (hv0 : K v0 = 8) (ov0 : O v0 = i) (hI : ZI K G O L M) (h : f_PF_end G v0 v1 M = out) : Zo K G O L i M out := by
  unfold f_PF_end at h
  have hZ := Zo.rf (i := i) hI
  obtain ⟨M1, eM1, h⟩ := stE h
  have hZ := z_si hZ eM1 ov0
  obtain ⟨M2, eM2, h⟩ := stE h
  have hZ := z_sl hZ eM2 ov0
  subst h
  exact hZ
set_option maxHeartbeats 4000000 in
set_option maxRecDepth 100000 in
theorem fo_PF_followDigest_33 {K G O : Nat → Nat} {L : List Nat} {i : Nat} {out : Mm} : ∀ (n : Nat) (v0 : Nat) (v1 : Int64) (v3 : Int32) (v4 : Int32) (v5 : Int32) (v6 : Int32) (M : Mm), K v0 = 8 → O v0 = i → ZI K G O L M → f_PF_followDigest_33 G n v0 v1 v3 v4 v5 v6 M = some out → Zo K G O L i M out := by
  intro n
  induction n with
  | zero => intro _ _ _ _ _ _ _ _ _ _ h; rw [f_PF_followDigest_33] at h; cases h
  | succ n ih =>
    intro v0 v1 v3 v4 v5 v6 M hv0 ov0 hI h
    rw [f_PF_followDigest_33] at h
    have hZ := Zo.rf (i := i) hI
    rcases ifC h with ⟨_, h⟩ | ⟨_, h⟩
    · rcases ifC h with ⟨_, h⟩ | ⟨_, h⟩
      · obtain ⟨M1, eM1, h⟩ := stE h
        have hZ := z_si hZ eM1 ov0
        obtain rfl := Option.some.inj h
        exact hZ
      · have q2 := (u_PF_words hZ.2.1 hv0)
        have oq2 := (o_PF_words hZ.2.2 hv0 ov0)
        obtain ⟨q3, hq3, h⟩ := ob h
        rcases ifC h with ⟨_, h⟩ | ⟨_, h⟩
        · obtain ⟨M4, eM4, h⟩ := stE h
          have hZ := z_si hZ eM4 ov0
          rcases ifC h with ⟨_, h⟩ | ⟨_, h⟩
          · have q6 := (u_PF_words hZ.2.1 hv0)
            have oq6 := (o_PF_words hZ.2.2 hv0 ov0)
            obtain ⟨j7, hj7, h⟩ := ob h
            obtain ⟨q8, hq8, h⟩ := stE h
            have hZ := hZ.step (fo_PF_end v0 (gl M4 (gr M4 v0 0) j7) M4 hv0 ov0 hZ.2 hq8.symm)
            obtain rfl := Option.some.inj h
            exact hZ
          · obtain ⟨M5, eM5, h⟩ := stE h
            have hZ := z_si hZ eM5 ov0
            obtain rfl := Option.some.inj h
            exact hZ
        · obtain ⟨M9, eM9, h⟩ := stE h
          have hZ := z_si hZ eM9 ov0
          obtain rfl := Option.some.inj h
          exact hZ
    · obtain ⟨q10, hq10, h⟩ := ob h
      rcases ifC h with ⟨_, h⟩ | ⟨_, h⟩
      · obtain ⟨M21, eM21, h⟩ := stE h
        have hZ := z_si hZ eM21 ov0
        obtain rfl := Option.some.inj h
        exact hZ
      · rcases ifC h with ⟨_, h⟩ | ⟨_, h⟩
        · obtain ⟨M14, eM14, h⟩ := stE h
          have hZ := z_si hZ eM14 ov0
          have q15 := (u_PF_words hZ.2.1 hv0)
          have oq15 := (o_PF_words hZ.2.2 hv0 ov0)
          obtain ⟨j16, hj16, h⟩ := ob h
          obtain ⟨M17, eM17, h⟩ := stE h
          have hZ := z_si hZ eM17 ov0
          have q18 := (u_PF_words hZ.2.1 hv0)
          have oq18 := (o_PF_words hZ.2.2 hv0 ov0)
          obtain ⟨j19, hj19, h⟩ := ob h
          obtain ⟨x20, ex20, h⟩ := stE h
          exact hZ.step (ih v0 v1 v3 v4 x20 (v6 + 1) M17 hv0 ov0 hZ.2 h)
        · have q11 := (u_PF_words hZ.2.1 hv0)
          have oq11 := (o_PF_words hZ.2.2 hv0 ov0)
          obtain ⟨j12, hj12, h⟩ := ob h
          obtain ⟨x13, ex13, h⟩ := stE h
          exact hZ.step (ih v0 v1 v3 v4 x13 (v6 + 1) M hv0 ov0 hZ.2 h)
set_option maxHeartbeats 4000000 in
set_option maxRecDepth 100000 in
theorem fo_PF_followDigest {K G O : Nat → Nat} {L : List Nat} {i : Nat} {out : Mm} (v0 : Nat) (v1 : Int64) (M : Mm) (hv0 : K v0 = 8) (ov0 : O v0 = i) (hI : ZI K G O L M) (h : f_PF_followDigest G v0 v1 M = some out) : Zo K G O L i M out := by
  unfold f_PF_followDigest at h
  have hZ := Zo.rf (i := i) hI
  rcases ifC h with ⟨_, h⟩ | ⟨_, h⟩
  · exact hZ.step (fo_PF_followDigest_33 FU v0 v1 (gi M v0 3) (-1) (gi M v0 3) 0 M hv0 ov0 hZ.2 h)
  · obtain ⟨x1, ex1, h⟩ := stE h
    exact hZ.step (fo_PF_followDigest_33 FU v0 v1 (gi M v0 3) x1 (gi M v0 3) 0 M hv0 ov0 hZ.2 h)
set_option maxHeartbeats 4000000 in
set_option maxRecDepth 100000 in
theorem fo_PF_followPair {K G O : Nat → Nat} {L : List Nat} {i : Nat} {out : Mm} (v0 : Nat) (v1 : Int64) (v3 : Int64) (M : Mm) (hv0 : K v0 = 8) (ov0 : O v0 = i) (hI : ZI K G O L M) (h : f_PF_followPair G v0 v1 v3 M = out) : Zo K G O L i M out := by
  unfold f_PF_followPair at h
  have hZ := Zo.rf (i := i) hI
  obtain ⟨x1, ex1, h⟩ := stE h
  rcases ifC h with ⟨_, h⟩ | ⟨_, h⟩
  · rcases ifC h with ⟨_, h⟩ | ⟨_, h⟩
    · obtain ⟨M16, eM16, h⟩ := stE h
      have hZ := z_si hZ eM16 ov0
      subst h
      exact hZ
    · rcases ifC h with ⟨_, h⟩ | ⟨_, h⟩
      · rcases ifC h with ⟨_, h⟩ | ⟨_, h⟩
        · obtain ⟨M29, eM29, h⟩ := stE h
          have hZ := z_si hZ eM29 ov0
          subst h
          exact hZ
        · rcases ifC h with ⟨_, h⟩ | ⟨_, h⟩
          · rcases ifC h with ⟨_, h⟩ | ⟨_, h⟩
            · obtain ⟨q26, hq26, h⟩ := stE h
              have hZ := hZ.step (fo_PF_end v0 0 M hv0 ov0 hZ.2 hq26.symm)
              subst h
              exact hZ
            · obtain ⟨M23, eM23, h⟩ := stE h
              have hZ := z_si hZ eM23 ov0
              obtain ⟨M24, eM24, h⟩ := stE h
              have hZ := z_si hZ eM24 ov0
              obtain ⟨M25, eM25, h⟩ := stE h
              have hZ := z_si hZ eM25 ov0
              subst h
              exact hZ
          · rcases ifC h with ⟨_, h⟩ | ⟨_, h⟩
            · obtain ⟨q28, hq28, h⟩ := stE h
              have hZ := hZ.step (fo_PF_end v0 v3 M hv0 ov0 hZ.2 hq28.symm)
              subst h
              exact hZ
            · obtain ⟨q27, hq27, h⟩ := stE h
              have hZ := hZ.step (fo_PF_end v0 0 M hv0 ov0 hZ.2 hq27.symm)
              subst h
              exact hZ
      · rcases ifC h with ⟨_, h⟩ | ⟨_, h⟩
        · rcases ifC h with ⟨_, h⟩ | ⟨_, h⟩
          · obtain ⟨q20, hq20, h⟩ := stE h
            have hZ := hZ.step (fo_PF_end v0 0 M hv0 ov0 hZ.2 hq20.symm)
            subst h
            exact hZ
          · obtain ⟨M17, eM17, h⟩ := stE h
            have hZ := z_si hZ eM17 ov0
            obtain ⟨M18, eM18, h⟩ := stE h
            have hZ := z_si hZ eM18 ov0
            obtain ⟨M19, eM19, h⟩ := stE h
            have hZ := z_si hZ eM19 ov0
            subst h
            exact hZ
        · rcases ifC h with ⟨_, h⟩ | ⟨_, h⟩
          · obtain ⟨q22, hq22, h⟩ := stE h
            have hZ := hZ.step (fo_PF_end v0 v3 M hv0 ov0 hZ.2 hq22.symm)
            subst h
            exact hZ
          · obtain ⟨q21, hq21, h⟩ := stE h
            have hZ := hZ.step (fo_PF_end v0 0 M hv0 ov0 hZ.2 hq21.symm)
            subst h
            exact hZ
  · rcases ifC h with ⟨_, h⟩ | ⟨_, h⟩
    · obtain ⟨M2, eM2, h⟩ := stE h
      have hZ := z_si hZ eM2 ov0
      subst h
      exact hZ
    · rcases ifC h with ⟨_, h⟩ | ⟨_, h⟩
      · rcases ifC h with ⟨_, h⟩ | ⟨_, h⟩
        · obtain ⟨M15, eM15, h⟩ := stE h
          have hZ := z_si hZ eM15 ov0
          subst h
          exact hZ
        · rcases ifC h with ⟨_, h⟩ | ⟨_, h⟩
          · rcases ifC h with ⟨_, h⟩ | ⟨_, h⟩
            · obtain ⟨q12, hq12, h⟩ := stE h
              have hZ := hZ.step (fo_PF_end v0 0 M hv0 ov0 hZ.2 hq12.symm)
              subst h
              exact hZ
            · obtain ⟨M9, eM9, h⟩ := stE h
              have hZ := z_si hZ eM9 ov0
              obtain ⟨M10, eM10, h⟩ := stE h
              have hZ := z_si hZ eM10 ov0
              obtain ⟨M11, eM11, h⟩ := stE h
              have hZ := z_si hZ eM11 ov0
              subst h
              exact hZ
          · rcases ifC h with ⟨_, h⟩ | ⟨_, h⟩
            · obtain ⟨q14, hq14, h⟩ := stE h
              have hZ := hZ.step (fo_PF_end v0 v3 M hv0 ov0 hZ.2 hq14.symm)
              subst h
              exact hZ
            · obtain ⟨q13, hq13, h⟩ := stE h
              have hZ := hZ.step (fo_PF_end v0 0 M hv0 ov0 hZ.2 hq13.symm)
              subst h
              exact hZ
      · rcases ifC h with ⟨_, h⟩ | ⟨_, h⟩
        · rcases ifC h with ⟨_, h⟩ | ⟨_, h⟩
          · obtain ⟨q6, hq6, h⟩ := stE h
            have hZ := hZ.step (fo_PF_end v0 0 M hv0 ov0 hZ.2 hq6.symm)
            subst h
            exact hZ
          · obtain ⟨M3, eM3, h⟩ := stE h
            have hZ := z_si hZ eM3 ov0
            obtain ⟨M4, eM4, h⟩ := stE h
            have hZ := z_si hZ eM4 ov0
            obtain ⟨M5, eM5, h⟩ := stE h
            have hZ := z_si hZ eM5 ov0
            subst h
            exact hZ
        · rcases ifC h with ⟨_, h⟩ | ⟨_, h⟩
          · obtain ⟨q8, hq8, h⟩ := stE h
            have hZ := hZ.step (fo_PF_end v0 v3 M hv0 ov0 hZ.2 hq8.symm)
            subst h
            exact hZ
          · obtain ⟨q7, hq7, h⟩ := stE h
            have hZ := hZ.step (fo_PF_end v0 0 M hv0 ov0 hZ.2 hq7.symm)
            subst h
            exact hZ
set_option maxHeartbeats 4000000 in
set_option maxRecDepth 100000 in
theorem fo_PF_takeTopReference {K G O : Nat → Nat} {L : List Nat} {i : Nat} {out : Mm} (v0 : Nat) (v1 : Int64) (M : Mm) (hv0 : K v0 = 8) (ov0 : O v0 = i) (hI : ZI K G O L M) (h : f_PF_takeTopReference G v0 v1 M = some out) : Zo K G O L i M out := by
  unfold f_PF_takeTopReference at h
  have hZ := Zo.rf (i := i) hI
  obtain ⟨q1, hq1, h⟩ := ob h
  rcases ifC h with ⟨_, h⟩ | ⟨_, h⟩
  · obtain ⟨M10, eM10, h⟩ := stE h
    have hZ := z_si hZ eM10 ov0
    obtain rfl := Option.some.inj h
    exact hZ
  · obtain ⟨M2, eM2, h⟩ := stE h
    have hZ := z_si hZ eM2 ov0
    have q3 := (u_PF_words hZ.2.1 hv0)
    have oq3 := (o_PF_words hZ.2.2 hv0 ov0)
    obtain ⟨j4, hj4, h⟩ := ob h
    obtain ⟨M5, eM5, h⟩ := stE h
    have hZ := z_si hZ eM5 ov0
    obtain ⟨M6, eM6, h⟩ := stE h
    have hZ := z_si hZ eM6 ov0
    have q7 := (u_PF_words hZ.2.1 hv0)
    have oq7 := (o_PF_words hZ.2.2 hv0 ov0)
    obtain ⟨q8, hq8, h⟩ := ob h
    rcases ifC h with ⟨_, h⟩ | ⟨_, h⟩
    · obtain rfl := Option.some.inj h
      exact hZ
    · obtain ⟨M9, eM9, h⟩ := stE h
      have hZ := z_si hZ eM9 ov0
      obtain rfl := Option.some.inj h
      exact hZ
set_option maxHeartbeats 4000000 in
set_option maxRecDepth 100000 in
theorem fo_PF_shows_18 {K G O : Nat → Nat} {L : List Nat} {i : Nat} {out : Int32 × Mm} : ∀ (n : Nat) (v0 : Nat) (v4 : Int64) (v6 : Int32) (M : Mm), K v0 = 8 → O v0 = i → ZI K G O L M → f_PF_shows_18 G n v0 v4 v6 M = some out → Zo K G O L i M out.2 := by
  intro n
  induction n with
  | zero => intro _ _ _ _ _ _ _ h; rw [f_PF_shows_18] at h; cases h
  | succ n ih =>
    intro v0 v4 v6 M hv0 ov0 hI h
    rw [f_PF_shows_18] at h
    have hZ := Zo.rf (i := i) hI
    rcases ifC h with ⟨_, h⟩ | ⟨_, h⟩
    · rcases ifC h with ⟨_, h⟩ | ⟨_, h⟩
      · rcases ifC h with ⟨_, h⟩ | ⟨_, h⟩
        · rcases ifC h with ⟨_, h⟩ | ⟨_, h⟩
          · obtain rfl := Option.some.inj h
            exact hZ
          · obtain rfl := Option.some.inj h
            exact hZ
        · obtain rfl := Option.some.inj h
          exact hZ
      · obtain rfl := Option.some.inj h
        exact hZ
    · rcases ifC h with ⟨_, h⟩ | ⟨_, h⟩
      · rcases ifC h with ⟨_, h⟩ | ⟨_, h⟩
        · obtain ⟨q9, hq9, h⟩ := stE h
          have hZ := hZ.step (fo_PF_end v0 0 M hv0 ov0 hZ.2 hq9.symm)
          exact hZ.step (ih v0 v4 (v6 + 1) q9 hv0 ov0 hZ.2 h)
        · rcases ifC h with ⟨_, h⟩ | ⟨_, h⟩
          · have q6 := (u_PF_words hZ.2.1 hv0)
            have oq6 := (o_PF_words hZ.2.2 hv0 ov0)
            obtain ⟨j7, hj7, h⟩ := ob h
            obtain ⟨q8, hq8, h⟩ := ob h
            have hZ := hZ.step (fo_PF_followDigest v0 (gl M (gr M v0 0) j7) M hv0 ov0 hZ.2 hq8)
            exact hZ.step (ih v0 v4 (v6 + 1) q8 hv0 ov0 hZ.2 h)
          · have q1 := (u_PF_words hZ.2.1 hv0)
            have oq1 := (o_PF_words hZ.2.2 hv0 ov0)
            obtain ⟨j2, hj2, h⟩ := ob h
            have q3 := (u_PF_words hZ.2.1 hv0)
            have oq3 := (o_PF_words hZ.2.2 hv0 ov0)
            obtain ⟨j4, hj4, h⟩ := ob h
            obtain ⟨q5, hq5, h⟩ := stE h
            have hZ := hZ.step (fo_PF_followPair v0 (gl M (gr M v0 0) j2) (gl M (gr M v0 0) j4) M hv0 ov0 hZ.2 hq5.symm)
            exact hZ.step (ih v0 v4 (v6 + 1) q5 hv0 ov0 hZ.2 h)
      · rcases ifC h with ⟨_, h⟩ | ⟨_, h⟩
        · rcases ifC h with ⟨_, h⟩ | ⟨_, h⟩
          · rcases ifC h with ⟨_, h⟩ | ⟨_, h⟩
            · obtain rfl := Option.some.inj h
              exact hZ
            · obtain rfl := Option.some.inj h
              exact hZ
          · obtain rfl := Option.some.inj h
            exact hZ
        · obtain rfl := Option.some.inj h
          exact hZ
set_option maxHeartbeats 4000000 in
set_option maxRecDepth 100000 in
theorem fo_PF_shows {K G O : Nat → Nat} {L : List Nat} {i : Nat} {out : Int32 × Mm} (v0 : Nat) (v1 : Int64) (v3 : Int32) (v4 : Int64) (M : Mm) (hv0 : K v0 = 8) (ov0 : O v0 = i) (hI : ZI K G O L M) (h : f_PF_shows G v0 v1 v3 v4 M = some out) : Zo K G O L i M out.2 := by
  unfold f_PF_shows at h
  have hZ := Zo.rf (i := i) hI
  obtain ⟨M1, eM1, h⟩ := stE h
  have hZ := z_si hZ eM1 ov0
  obtain ⟨M2, eM2, h⟩ := stE h
  have hZ := z_si hZ eM2 ov0
  obtain ⟨q3, hq3, h⟩ := ob h
  have hZ := hZ.step (fo_PF_takeTopReference v0 v1 M2 hv0 ov0 hZ.2 hq3)
  exact hZ.step (fo_PF_shows_18 FU v0 v4 0 q3 hv0 ov0 hZ.2 h)
set_option maxHeartbeats 4000000 in
set_option maxRecDepth 100000 in
theorem fo_NT_verify {K G O : Nat → Nat} {L : List Nat} {i : Nat} {out : Int32 × Mm} (v0 : Nat) (v1 : Int64) (v3 : Int32) (v4 : Int32) (M : Mm) (hv0 : K v0 = 5) (ov0 : O v0 = i) (hI : ZI K G O L M) (h : f_NT_verify G v0 v1 v3 v4 M = some out) : Zo K G O L i M out.2 := by
  unfold f_NT_verify at h
  have hZ := Zo.rf (i := i) hI
  rcases ifC h with ⟨_, h⟩ | ⟨_, h⟩
  · obtain rfl := Option.some.inj h
    exact hZ
  · have q1 := (u_NT_proof hZ.2.1 hv0)
    have oq1 := (o_NT_proof hZ.2.2 hv0 ov0)
    obtain ⟨q2, hq2, h⟩ := ob h
    have hZ := hZ.step (fo_PF_shows (gr M v0 3) v1 v3 (v4.toInt64) M q1 oq1 hZ.2 hq2)
    rcases ifC h with ⟨_, h⟩ | ⟨_, h⟩
    · obtain rfl := Option.some.inj h
      exact hZ
    · obtain rfl := Option.some.inj h
      exact hZ
