/-! the walks of these methods, by program out of the bytecode -/
set_option maxHeartbeats 4000000 in
set_option maxRecDepth 100000 in
theorem m_NT_put (l : Launch) {E : En} {K G : Nat → Nat} {L : List Nat} {M : Mm} {sz : Nat} {out : Int32 × Mm} (v0 : Nat) (v1 : Int32) (v2 : Int32) (hv0 : K v0 = 5) (h : f_NT_put G v0 v1 v2 M = some out) : Met l y_NT_put w_NT_put rm_NT_put (va_Pc [.ref v0, .int v1, .int v2] (Wp E K G L M sz)) (QI E K G L sz out.1 out.2) 0 0 (AL L sz) := by
  refine Met.ofW (cc := b_NT_put) (maxL := 3) (ret := (some .int)) (by decide) rfl ?_
  intro p e s m av below meth c s₁ B hml hv
  obtain ⟨rfl, hWp⟩ := hv
  have hWd := Wd.start hWp
  obtain ⟨rfl, -⟩ := hWp
  have hX : CallFix p m c b_NT_put 3 s _ w_NT_put "NibbleTrie" := ⟨B.exec, B.bytes, hml, findClass_of_methodNamed B.named, atoms_spec (ws := w_NT_put) B.pre⟩
  have hx := hX.1
  have hb := hX.2.1
  have hown := hX.2.2.2.1
  have hts := hX.2.2.2.2
  have hr := B.returns
  have hlk := B.notSynchronized
  have hl := lv_entry ([.ref v0, .int v1, .int v2]) (n := 3) (Nat.le_of_ble_eq_true rfl)
  rw [lg_entry_eq]
  generalize (lg_sl ([.ref v0, .int v1, .int v2]) ++ List.replicate (3 - (lg_sl ([.ref v0, .int v1, .int v2])).length) Slot.unset).toArray = ls at hl ⊢
  have hl : lv_has ls 3 [(0, .ref v0), (1, .int v1), (2, .int v2)] := hl
  unfold f_NT_put at h
  refine lv_iload_n hx hb d_NT_put_0 rfl (lv_at hl 1 rfl) ?_
  refine lv_i2l hx hb d_NT_put_1 rfl ?_
  refine kp_z (va_runS (As := [.long (v1.toInt64)]) (rest := []) hX (m_PA_isNumber l  (v1.toInt64) rfl) (cb_PA_isNumber hts t_140 ⟨Nat.le_of_ble_eq_true rfl, Nat.le_of_ble_eq_true rfl⟩) preEq rfl rfl hl.1 rfl (lv_room (Nat.le_of_ble_eq_true rfl)) d_NT_put_2 ⟨Nat.zero_le _, Nat.zero_le _⟩) (fun z1 => ?_)
  refine lv_if_ne (tgt := 10) hx hb d_NT_put_5 (by decide) (fun hc => ?_) (fun hc => ?_)
  · replace h := ifN h hc
    refine lv_aload_n hx hb d_NT_put_10 rfl (lv_at hl 0 rfl) ?_
    refine g_NT_working hX t_123 hWd hv0 d_NT_put_11 ?_
    have q2 := v_NT_working hWd hv0
    refine lv_iload_n hx hb d_NT_put_14 rfl (lv_at hl 1 rfl) ?_
    refine lv_iload_n hx hb d_NT_put_15 rfl (lv_at hl 2 rfl) ?_
    obtain ⟨q3, hq3, h⟩ := ob h
    refine kc_i (va_runV (As := [.int v1, .int v2]) (rest := []) hX (m_TR_change l  (gr M v0 0) v1 v2 q2 hq3) (cb_TR_change hts t_151 ⟨Nat.le_of_ble_eq_true rfl, Nat.le_of_ble_eq_true rfl⟩) (pv_TR hWd q2) rfl rfl hl.1 rfl (lv_room (Nat.le_of_ble_eq_true rfl)) d_NT_put_16 ⟨Nat.zero_le _, Nat.zero_le _⟩) hWd (fun H locs hWd => ?_)
    obtain rfl := Option.some.inj h
    exact e_iret hX hr hlk hWd d_NT_put_19
  · replace h := ifP h hc
    refine lv_iconst (v := 0) hx hb d_NT_put_8 (by decide) ?_
    obtain rfl := Option.some.inj h
    exact e_iret hX hr hlk hWd d_NT_put_9
set_option maxHeartbeats 4000000 in
set_option maxRecDepth 100000 in
theorem m_NT_get (l : Launch) {E : En} {K G : Nat → Nat} {L : List Nat} {M : Mm} {sz : Nat} {out : Int32} (v0 : Nat) (v1 : Int32) (hv0 : K v0 = 5) (h : f_NT_get G v0 v1 M = some out) : Met l y_NT_get w_NT_get rm_NT_get (va_Pc [.ref v0, .int v1] (Wp E K G L M sz)) (QI E K G L sz out M) 0 0 (AL L sz) := by
  refine Met.ofW (cc := b_NT_get) (maxL := 2) (ret := (some .int)) (by decide) rfl ?_
  intro p e s m av below meth c s₁ B hml hv
  obtain ⟨rfl, hWp⟩ := hv
  have hWd := Wd.start hWp
  obtain ⟨rfl, -⟩ := hWp
  have hX : CallFix p m c b_NT_get 2 s _ w_NT_get "NibbleTrie" := ⟨B.exec, B.bytes, hml, findClass_of_methodNamed B.named, atoms_spec (ws := w_NT_get) B.pre⟩
  have hx := hX.1
  have hb := hX.2.1
  have hown := hX.2.2.2.1
  have hts := hX.2.2.2.2
  have hr := B.returns
  have hlk := B.notSynchronized
  have hl := lv_entry ([.ref v0, .int v1]) (n := 2) (Nat.le_of_ble_eq_true rfl)
  rw [lg_entry_eq]
  generalize (lg_sl ([.ref v0, .int v1]) ++ List.replicate (2 - (lg_sl ([.ref v0, .int v1])).length) Slot.unset).toArray = ls at hl ⊢
  have hl : lv_has ls 2 [(0, .ref v0), (1, .int v1)] := hl
  unfold f_NT_get at h
  refine lv_aload_n hx hb d_NT_get_0 rfl (lv_at hl 0 rfl) ?_
  refine g_NT_working hX t_123 hWd hv0 d_NT_get_1 ?_
  have q1 := v_NT_working hWd hv0
  refine g_TR_map hX t_47 hWd q1 d_NT_get_4 ?_
  have q2 := v_TR_map hWd q1
  refine lv_iload_n hx hb d_NT_get_7 rfl (lv_at hl 1 rfl) ?_
  obtain ⟨q3, hq3, h⟩ := ob h
  refine kc_i (va_runV (As := [.int v1]) (rest := []) hX (m_PM_valueOf l  (gr M (gr M v0 0) 0) v1 q2 hq3) (cb_PM_valueOf hts t_211 ⟨Nat.le_of_ble_eq_true rfl, Nat.le_of_ble_eq_true rfl⟩) (pv_PM hWd q2) rfl rfl hl.1 rfl (lv_room (Nat.le_of_ble_eq_true rfl)) d_NT_get_8 ⟨Nat.zero_le _, Nat.zero_le _⟩) hWd (fun H locs hWd => ?_)
  obtain rfl := Option.some.inj h
  exact e_iret hX hr hlk hWd d_NT_get_11
set_option maxHeartbeats 4000000 in
set_option maxRecDepth 100000 in
theorem m_NT_size (l : Launch) {E : En} {K G : Nat → Nat} {L : List Nat} {M : Mm} {sz : Nat} {out : Int32} (v0 : Nat) (hv0 : K v0 = 5) (h : f_NT_size G v0 M = out) : Met l y_NT_size w_NT_size rm_NT_size (va_Pc [.ref v0] (Wp E K G L M sz)) (QI E K G L sz out M) 0 0 (AL L sz) := by
  refine Met.ofW (cc := b_NT_size) (maxL := 1) (ret := (some .int)) (by decide) rfl ?_
  intro p e s m av below meth c s₁ B hml hv
  obtain ⟨rfl, hWp⟩ := hv
  have hWd := Wd.start hWp
  obtain ⟨rfl, -⟩ := hWp
  have hX : CallFix p m c b_NT_size 1 s _ w_NT_size "NibbleTrie" := ⟨B.exec, B.bytes, hml, findClass_of_methodNamed B.named, atoms_spec (ws := w_NT_size) B.pre⟩
  have hx := hX.1
  have hb := hX.2.1
  have hown := hX.2.2.2.1
  have hts := hX.2.2.2.2
  have hr := B.returns
  have hlk := B.notSynchronized
  have hl := lv_entry ([.ref v0]) (n := 1) (Nat.le_of_ble_eq_true rfl)
  rw [lg_entry_eq]
  generalize (lg_sl ([.ref v0]) ++ List.replicate (1 - (lg_sl ([.ref v0])).length) Slot.unset).toArray = ls at hl ⊢
  have hl : lv_has ls 1 [(0, .ref v0)] := hl
  unfold f_NT_size at h
  refine lv_aload_n hx hb d_NT_size_0 rfl (lv_at hl 0 rfl) ?_
  refine g_NT_working hX t_123 hWd hv0 d_NT_size_1 ?_
  have q1 := v_NT_working hWd hv0
  refine g_TR_map hX t_47 hWd q1 d_NT_size_4 ?_
  have q2 := v_TR_map hWd q1
  refine g_PM_rows hX t_34 hWd q2 d_NT_size_7 ?_
  subst h
  exact e_iret hX hr hlk hWd d_NT_size_10
set_option maxHeartbeats 4000000 in
set_option maxRecDepth 100000 in
theorem m_NT_root (l : Launch) {E : En} {K G : Nat → Nat} {L : List Nat} {M : Mm} {sz : Nat} {out : Int64 × Mm} (v0 : Nat) (hv0 : K v0 = 5) (h : f_NT_root G v0 M = some out) : Met l y_NT_root w_NT_root rm_NT_root (va_Pc [.ref v0] (Wp E K G L M sz)) (QL E K G L sz out.1 out.2) 0 0 (AL L sz) := by
  refine Met.ofW (cc := b_NT_root) (maxL := 1) (ret := (some .long)) (by decide) rfl ?_
  intro p e s m av below meth c s₁ B hml hv
  obtain ⟨rfl, hWp⟩ := hv
  have hWd := Wd.start hWp
  obtain ⟨rfl, -⟩ := hWp
  have hX : CallFix p m c b_NT_root 1 s _ w_NT_root "NibbleTrie" := ⟨B.exec, B.bytes, hml, findClass_of_methodNamed B.named, atoms_spec (ws := w_NT_root) B.pre⟩
  have hx := hX.1
  have hb := hX.2.1
  have hown := hX.2.2.2.1
  have hts := hX.2.2.2.2
  have hr := B.returns
  have hlk := B.notSynchronized
  have hl := lv_entry ([.ref v0]) (n := 1) (Nat.le_of_ble_eq_true rfl)
  rw [lg_entry_eq]
  generalize (lg_sl ([.ref v0]) ++ List.replicate (1 - (lg_sl ([.ref v0])).length) Slot.unset).toArray = ls at hl ⊢
  have hl : lv_has ls 1 [(0, .ref v0)] := hl
  unfold f_NT_root at h
  refine lv_aload_n hx hb d_NT_root_0 rfl (lv_at hl 0 rfl) ?_
  refine g_NT_working hX t_123 hWd hv0 d_NT_root_1 ?_
  have q1 := v_NT_working hWd hv0
  obtain ⟨q2, hq2, h⟩ := ob h
  refine kc_l (va_runV (As := []) (rest := []) hX (m_TR_rootNumber l  (gr M v0 0) q1 hq2) (cb_TR_rootNumber hts t_224 ⟨Nat.le_of_ble_eq_true rfl, Nat.le_of_ble_eq_true rfl⟩) (pv_TR hWd q1) rfl rfl hl.1 rfl (lv_room (Nat.le_of_ble_eq_true rfl)) d_NT_root_4 ⟨Nat.zero_le _, Nat.zero_le _⟩) hWd (fun H locs hWd => ?_)
  obtain rfl := Option.some.inj h
  exact e_lret hX hr hlk hWd d_NT_root_7
set_option maxHeartbeats 4000000 in
set_option maxRecDepth 100000 in
theorem m_NT_count (l : Launch) {E : En} {K G : Nat → Nat} {L : List Nat} {M : Mm} {sz : Nat} {out : Int32} (v0 : Nat) (v1 : Int32) (hv0 : K v0 = 5) (h : f_NT_count G v0 v1 M = out) : Met l y_NT_count w_NT_count rm_NT_count (va_Pc [.ref v0, .int v1] (Wp E K G L M sz)) (QI E K G L sz out M) 0 0 (AL L sz) := by
  refine Met.ofW (cc := b_NT_count) (maxL := 2) (ret := (some .int)) (by decide) rfl ?_
  intro p e s m av below meth c s₁ B hml hv
  obtain ⟨rfl, hWp⟩ := hv
  have hWd := Wd.start hWp
  obtain ⟨rfl, -⟩ := hWp
  have hX : CallFix p m c b_NT_count 2 s _ w_NT_count "NibbleTrie" := ⟨B.exec, B.bytes, hml, findClass_of_methodNamed B.named, atoms_spec (ws := w_NT_count) B.pre⟩
  have hx := hX.1
  have hb := hX.2.1
  have hown := hX.2.2.2.1
  have hts := hX.2.2.2.2
  have hr := B.returns
  have hlk := B.notSynchronized
  have hl := lv_entry ([.ref v0, .int v1]) (n := 2) (Nat.le_of_ble_eq_true rfl)
  rw [lg_entry_eq]
  generalize (lg_sl ([.ref v0, .int v1]) ++ List.replicate (2 - (lg_sl ([.ref v0, .int v1])).length) Slot.unset).toArray = ls at hl ⊢
  have hl : lv_has ls 2 [(0, .ref v0), (1, .int v1)] := hl
  unfold f_NT_count at h
  refine lv_iload_n hx hb d_NT_count_0 rfl (lv_at hl 1 rfl) ?_
  by_cases hc0 : v1 = 0
  · replace h := ifP h hc0
    refine tbIn (tgt := 28) (off := 27) hx hb d_NT_count_1 hc0 (by decide) (by decide) (by decide) (by decide) ?_
    refine lv_aload_n hx hb d_NT_count_28 rfl (lv_at hl 0 rfl) ?_
    refine g_NT_working hX t_123 hWd hv0 d_NT_count_29 ?_
    have q1 := v_NT_working hWd hv0
    refine g_TR_leaves hX t_49 hWd q1 d_NT_count_32 ?_
    subst h
    exact e_iret hX hr hlk hWd d_NT_count_35
  replace h := ifN h hc0
  by_cases hc1 : v1 = 1
  · replace h := ifP h hc1
    refine tbIn (tgt := 36) (off := 35) hx hb d_NT_count_1 hc1 (by decide) (by decide) (by decide) (by decide) ?_
    refine lv_aload_n hx hb d_NT_count_36 rfl (lv_at hl 0 rfl) ?_
    refine g_NT_working hX t_123 hWd hv0 d_NT_count_37 ?_
    have q2 := v_NT_working hWd hv0
    refine g_TR_extensions hX t_51 hWd q2 d_NT_count_40 ?_
    subst h
    exact e_iret hX hr hlk hWd d_NT_count_43
  replace h := ifN h hc1
  by_cases hc2 : v1 = 2
  · replace h := ifP h hc2
    refine tbIn (tgt := 44) (off := 43) hx hb d_NT_count_1 hc2 (by decide) (by decide) (by decide) (by decide) ?_
    refine lv_aload_n hx hb d_NT_count_44 rfl (lv_at hl 0 rfl) ?_
    refine g_NT_working hX t_123 hWd hv0 d_NT_count_45 ?_
    have q3 := v_NT_working hWd hv0
    refine g_TR_branches hX t_53 hWd q3 d_NT_count_48 ?_
    subst h
    exact e_iret hX hr hlk hWd d_NT_count_51
  replace h := ifN h hc2
  refine lv_tableOut (tgt := 52) hx hb d_NT_count_1 (tbOut3 hc0 hc1 hc2) (by decide) ?_
  refine lv_iconst (v := (-1)) hx hb d_NT_count_52 (by decide) ?_
  subst h
  exact e_iret hX hr hlk hWd d_NT_count_53
set_option maxHeartbeats 4000000 in
set_option maxRecDepth 100000 in
theorem w_NT_isAmongVersions_3 {p : Program} {l : Launch} {e : Env} {s : State} {m : MethodId} {args : Array Value} {below : List Frame} {meth : Method} {c : Code} {E : En} {K G : Nat → Nat} {L : List Nat} (hX : CallFix p m c b_NT_isAmongVersions 5 s args w_NT_isAmongVersions "NibbleTrie") (hr : meth.sig.returnType = (some .boolean)) (hlk : meth.locks = false) {out : Int32} : ∀ (n : Nat) (v0 : Nat) (v1 : Int32) (v2 : Nat) (v3 : Int32) (v4 : Int32) (M : Mm) (H : Heap) (locs : List Loc) (ls : Array Slot), K v0 = 5 → K v2 = 6 → lv_has ls 5 [(0, .ref v0), (1, .int v1), (2, .ref v2), (3, .int v3), (4, .int v4)] → Wd E K G L M s.heap H locs s → f_NT_isAmongVersions_3 G n v0 v1 v2 v3 v4 M = some out → W p l e rm_NT_isAmongVersions s m args below meth c H locs 0 0 (MQ below (QZ E K G L s.heap.size out M) args s 0 0 (AL L s.heap.size)) (F0 m 3 ls []) := by
  have hx := hX.1
  have hb := hX.2.1
  have hown := hX.2.2.2.1
  have hts := hX.2.2.2.2
  intro n
  induction n with
  | zero => intro _ _ _ _ _ _ _ _ _ _ _ _ _ h; rw [f_NT_isAmongVersions_3] at h; cases h
  | succ n ih =>
    intro v0 v1 v2 v3 v4 M H locs ls hv0 hv2 hl hWd h
    rw [f_NT_isAmongVersions_3] at h
    refine lv_iload hx hb d_NT_isAmongVersions_3 (lv_at hl 4 rfl) ?_
    refine lv_iload_n hx hb d_NT_isAmongVersions_5 rfl (lv_at hl 1 rfl) ?_
    refine lv_icmp_ge (tgt := 42) hx hb d_NT_isAmongVersions_6 (by decide) (fun hc => ?_) (fun hc => ?_)
    · replace h := ifP h hc
      refine lv_iconst (v := 0) hx hb d_NT_isAmongVersions_42 (by decide) ?_
      obtain rfl := Option.some.inj h
      exact e_zret hX hr hlk hWd (Or.inl rfl) d_NT_isAmongVersions_43
    · replace h := ifN h hc
      refine lv_aload_n hx hb d_NT_isAmongVersions_9 rfl (lv_at hl 0 rfl) ?_
      refine g_NT_kept hX t_124 hWd hv0 d_NT_isAmongVersions_10 ?_
      have q1 := v_NT_kept hWd hv0
      refine lv_iload hx hb d_NT_isAmongVersions_13 (lv_at hl 4 rfl) ?_
      obtain ⟨j2, hj2, h⟩ := ob h
      refine r_tald hX hWd q1 hj2 d_NT_isAmongVersions_15 ?_
      have q3 := v_tel hWd q1 hj2
      refine lv_aload_n hx hb d_NT_isAmongVersions_16 rfl (lv_at hl 0 rfl) ?_
      refine g_NT_kept hX t_124 hWd hv0 d_NT_isAmongVersions_17 ?_
      have q4 := v_NT_kept hWd hv0
      refine lv_iload hx hb d_NT_isAmongVersions_20 (lv_at hl 4 rfl) ?_
      obtain ⟨j5, hj5, h⟩ := ob h
      refine r_tald hX hWd q4 hj5 d_NT_isAmongVersions_22 ?_
      have q6 := v_tel hWd q4 hj5
      refine g_TR_branches hX t_53 hWd q6 d_NT_isAmongVersions_23 ?_
      refine lv_aload_n hx hb d_NT_isAmongVersions_26 rfl (lv_at hl 2 rfl) ?_
      refine lv_iload_n hx hb d_NT_isAmongVersions_27 rfl (lv_at hl 3 rfl) ?_
      obtain ⟨q7, hq7, h⟩ := ob h
      refine kc_z (va_runV (As := [.int (gi M (gr M (gr M v0 1) j5) 3), .ref v2, .int v3]) (rest := []) hX (m_TR_hasAmongFirst l  (gr M (gr M v0 1) j2) (gi M (gr M (gr M v0 1) j5) 3) v2 v3 q3 hv2 hq7) (cb_TR_hasAmongFirst hts t_263 ⟨Nat.le_of_ble_eq_true rfl, Nat.le_of_ble_eq_true rfl⟩) (pv_TR hWd q3) rfl rfl hl.1 rfl (lv_room (Nat.le_of_ble_eq_true rfl)) d_NT_isAmongVersions_28 ⟨Nat.zero_le _, Nat.zero_le _⟩) hWd (fun z8 H locs hWd => ?_)
      refine lv_if_eq (tgt := 36) hx hb d_NT_isAmongVersions_31 (by decide) (fun hc => ?_) (fun hc => ?_)
      · replace h := ifP h hc
        refine lv_iinc (k := 4) (v := (v4 + 1)) (lv' := [(4, .int (v4 + 1)), (0, .ref v0), (1, .int v1), (2, .ref v2), (3, .int v3)]) hx hb d_NT_isAmongVersions_36 hl rfl (by rfl) (by decide) rfl (fun ls hl => ?_)
        refine lv_goto (tgt := 3) hx hb d_NT_isAmongVersions_39 (by decide) ?_
        exact ih v0 v1 v2 v3 (v4 + 1) M _ _ _ hv0 hv2 (lv_sub hl [1, 2, 3, 4, 0] rfl) hWd h
      · replace h := ifN h hc
        refine lv_iconst (v := 1) hx hb d_NT_isAmongVersions_34 (by decide) ?_
        obtain rfl := Option.some.inj h
        exact e_zret hX hr hlk hWd (Or.inr rfl) d_NT_isAmongVersions_35
set_option maxHeartbeats 4000000 in
set_option maxRecDepth 100000 in
theorem m_NT_isAmongVersions (l : Launch) {E : En} {K G : Nat → Nat} {L : List Nat} {M : Mm} {sz : Nat} {out : Int32} (v0 : Nat) (v1 : Int32) (v2 : Nat) (v3 : Int32) (hv0 : K v0 = 5) (hv2 : K v2 = 6) (h : f_NT_isAmongVersions G v0 v1 v2 v3 M = some out) : Met l y_NT_isAmongVersions w_NT_isAmongVersions rm_NT_isAmongVersions (va_Pc [.ref v0, .int v1, .ref v2, .int v3] (Wp E K G L M sz)) (QZ E K G L sz out M) 0 0 (AL L sz) := by
  refine Met.ofW (cc := b_NT_isAmongVersions) (maxL := 5) (ret := (some .boolean)) (by decide) rfl ?_
  intro p e s m av below meth c s₁ B hml hv
  obtain ⟨rfl, hWp⟩ := hv
  have hWd := Wd.start hWp
  obtain ⟨rfl, -⟩ := hWp
  have hX : CallFix p m c b_NT_isAmongVersions 5 s _ w_NT_isAmongVersions "NibbleTrie" := ⟨B.exec, B.bytes, hml, findClass_of_methodNamed B.named, atoms_spec (ws := w_NT_isAmongVersions) B.pre⟩
  have hx := hX.1
  have hb := hX.2.1
  have hown := hX.2.2.2.1
  have hts := hX.2.2.2.2
  have hr := B.returns
  have hlk := B.notSynchronized
  have hl := lv_entry ([.ref v0, .int v1, .ref v2, .int v3]) (n := 5) (Nat.le_of_ble_eq_true rfl)
  rw [lg_entry_eq]
  generalize (lg_sl ([.ref v0, .int v1, .ref v2, .int v3]) ++ List.replicate (5 - (lg_sl ([.ref v0, .int v1, .ref v2, .int v3])).length) Slot.unset).toArray = ls at hl ⊢
  have hl : lv_has ls 5 [(0, .ref v0), (1, .int v1), (2, .ref v2), (3, .int v3)] := hl
  unfold f_NT_isAmongVersions at h
  refine lv_iconst (v := 0) hx hb d_NT_isAmongVersions_0 (by decide) ?_
  refine lv_istore (lv' := [(4, .int 0), (0, .ref v0), (1, .int v1), (2, .ref v2), (3, .int v3)]) hx hb d_NT_isAmongVersions_1 hl (by decide) rfl (fun ls hl => ?_)
  exact w_NT_isAmongVersions_3 hX hr hlk FU v0 v1 v2 v3 0 M _ _ _ hv0 hv2 (lv_sub hl [1, 2, 3, 4, 0] rfl) hWd h
set_option maxHeartbeats 4000000 in
set_option maxRecDepth 100000 in
theorem w_NT_branchesToWrite_4 {p : Program} {l : Launch} {e : Env} {s : State} {m : MethodId} {args : Array Value} {below : List Frame} {meth : Method} {c : Code} {E : En} {K G : Nat → Nat} {L : List Nat} (hX : CallFix p m c b_NT_branchesToWrite 4 s args w_NT_branchesToWrite "NibbleTrie") (hr : meth.sig.returnType = (some .int)) (hlk : meth.locks = false) {out : Int32} : ∀ (n : Nat) (v0 : Nat) (v1 : Int32) (v2 : Int32) (M : Mm) (H : Heap) (locs : List Loc) (ls : Array Slot), K v0 = 5 → lv_has ls 4 [(0, .ref v0), (1, .int v1), (2, .int v2)] → Wd E K G L M s.heap H locs s → f_NT_branchesToWrite_4 G n v0 v1 v2 M = some out → W p l e rm_NT_branchesToWrite s m args below meth c H locs 0 0 (MQ below (QI E K G L s.heap.size out M) args s 0 0 (AL L s.heap.size)) (F0 m 4 ls []) := by
  have hx := hX.1
  have hb := hX.2.1
  have hown := hX.2.2.2.1
  have hts := hX.2.2.2.2
  intro n
  induction n with
  | zero => intro _ _ _ _ _ _ _ _ _ _ h; rw [f_NT_branchesToWrite_4] at h; cases h
  | succ n ih =>
    intro v0 v1 v2 M H locs ls hv0 hl hWd h
    rw [f_NT_branchesToWrite_4] at h
    refine lv_iload_n hx hb d_NT_branchesToWrite_4 rfl (lv_at hl 2 rfl) ?_
    refine lv_aload_n hx hb d_NT_branchesToWrite_5 rfl (lv_at hl 0 rfl) ?_
    refine g_NT_working hX t_123 hWd hv0 d_NT_branchesToWrite_6 ?_
    have q1 := v_NT_working hWd hv0
    refine g_TR_branches hX t_53 hWd q1 d_NT_branchesToWrite_9 ?_
    refine lv_icmp_ge (tgt := 58) hx hb d_NT_branchesToWrite_12 (by decide) (fun hc => ?_) (fun hc => ?_)
    · replace h := ifP h hc
      refine lv_iload_n hx hb d_NT_branchesToWrite_58 rfl (lv_at hl 1 rfl) ?_
      obtain rfl := Option.some.inj h
      exact e_iret hX hr hlk hWd d_NT_branchesToWrite_59
    · replace h := ifN h hc
      refine lv_aload_n hx hb d_NT_branchesToWrite_15 rfl (lv_at hl 0 rfl) ?_
      refine g_NT_working hX t_123 hWd hv0 d_NT_branchesToWrite_16 ?_
      have q2 := v_NT_working hWd hv0
      refine lv_iload_n hx hb d_NT_branchesToWrite_19 rfl (lv_at hl 2 rfl) ?_
      refine lv_aload_n hx hb d_NT_branchesToWrite_20 rfl (lv_at hl 0 rfl) ?_
      refine g_NT_working hX t_123 hWd hv0 d_NT_branchesToWrite_21 ?_
      have q3 := v_NT_working hWd hv0
      refine lv_iload_n hx hb d_NT_branchesToWrite_24 rfl (lv_at hl 2 rfl) ?_
      obtain ⟨q4, hq4, h⟩ := ob h
      refine kc_z (va_runV (As := [.int v2, .ref (gr M v0 0), .int v2]) (rest := []) hX (m_TR_hasAmongFirst l  (gr M v0 0) v2 (gr M v0 0) v2 q2 q3 hq4) (cb_TR_hasAmongFirst hts t_263 ⟨Nat.le_of_ble_eq_true rfl, Nat.le_of_ble_eq_true rfl⟩) (pv_TR hWd q2) rfl rfl hl.1 rfl (lv_room (Nat.le_of_ble_eq_true rfl)) d_NT_branchesToWrite_25 ⟨Nat.zero_le _, Nat.zero_le _⟩) hWd (fun z5 H locs hWd => ?_)
      refine lv_istore_n (lv' := [(3, .int q4), (0, .ref v0), (1, .int v1), (2, .int v2)]) hx hb d_NT_branchesToWrite_28 rfl hl (by decide) rfl (fun ls hl => ?_)
      refine lv_iload_n hx hb d_NT_branchesToWrite_29 rfl (lv_at hl 0 rfl) ?_
      refine lv_if_ne (tgt := 52) hx hb d_NT_branchesToWrite_30 (by decide) (fun hc => ?_) (fun hc => ?_)
      · replace h := ifN h hc
        refine lv_iinc (k := 3) (v := (v2 + 1)) (lv' := [(2, .int (v2 + 1)), (3, .int q4), (0, .ref v0), (1, .int v1)]) hx hb d_NT_branchesToWrite_52 hl rfl (by rfl) (by decide) rfl (fun ls hl => ?_)
        refine lv_goto (tgt := 4) hx hb d_NT_branchesToWrite_55 (by decide) ?_
        exact ih v0 v1 (v2 + 1) M _ _ _ hv0 (lv_sub hl [2, 3, 0] rfl) hWd h
      · replace h := ifP h hc
        refine lv_aload_n hx hb d_NT_branchesToWrite_33 rfl (lv_at hl 1 rfl) ?_
        refine lv_aload_n hx hb d_NT_branchesToWrite_34 rfl (lv_at hl 1 rfl) ?_
        refine g_NT_keptNow hX t_125 hWd hv0 d_NT_branchesToWrite_35 ?_
        refine lv_aload_n hx hb d_NT_branchesToWrite_38 rfl (lv_at hl 1 rfl) ?_
        refine g_NT_working hX t_123 hWd hv0 d_NT_branchesToWrite_39 ?_
        have q6 := v_NT_working hWd hv0
        refine lv_iload_n hx hb d_NT_branchesToWrite_42 rfl (lv_at hl 3 rfl) ?_
        obtain ⟨q7, hq7, h⟩ := ob h
        refine kc_z (va_runV (As := [.int (gi M v0 2), .ref (gr M v0 0), .int v2]) (rest := []) hX (m_NT_isAmongVersions l  v0 (gi M v0 2) (gr M v0 0) v2 hv0 q6 hq7) (cb_NT_isAmongVersions hts t_271 ⟨Nat.le_of_ble_eq_true rfl, Nat.le_of_ble_eq_true rfl⟩) (pv_NT hWd hv0) rfl rfl hl.1 rfl (lv_room (Nat.le_of_ble_eq_true rfl)) d_NT_branchesToWrite_43 ⟨Nat.zero_le _, Nat.zero_le _⟩) hWd (fun z8 H locs hWd => ?_)
        refine lv_if_ne (tgt := 52) hx hb d_NT_branchesToWrite_46 (by decide) (fun hc => ?_) (fun hc => ?_)
        · replace h := ifN h hc
          refine lv_iinc (k := 3) (v := (v2 + 1)) (lv' := [(2, .int (v2 + 1)), (3, .int q4), (0, .ref v0), (1, .int v1)]) hx hb d_NT_branchesToWrite_52 hl rfl (by rfl) (by decide) rfl (fun ls hl => ?_)
          refine lv_goto (tgt := 4) hx hb d_NT_branchesToWrite_55 (by decide) ?_
          exact ih v0 v1 (v2 + 1) M _ _ _ hv0 (lv_sub hl [2, 3, 0] rfl) hWd h
        · replace h := ifP h hc
          refine lv_iinc (k := 2) (v := (v1 + 1)) (lv' := [(1, .int (v1 + 1)), (3, .int q4), (0, .ref v0), (2, .int v2)]) hx hb d_NT_branchesToWrite_49 hl rfl (by rfl) (by decide) rfl (fun ls hl => ?_)
          refine lv_iinc (k := 3) (v := (v2 + 1)) (lv' := [(2, .int (v2 + 1)), (1, .int (v1 + 1)), (3, .int q4), (0, .ref v0)]) hx hb d_NT_branchesToWrite_52 hl rfl (by rfl) (by decide) rfl (fun ls hl => ?_)
          refine lv_goto (tgt := 4) hx hb d_NT_branchesToWrite_55 (by decide) ?_
          exact ih v0 (v1 + 1) (v2 + 1) M _ _ _ hv0 (lv_sub hl [3, 1, 0] rfl) hWd h
set_option maxHeartbeats 4000000 in
set_option maxRecDepth 100000 in
theorem m_NT_branchesToWrite (l : Launch) {E : En} {K G : Nat → Nat} {L : List Nat} {M : Mm} {sz : Nat} {out : Int32} (v0 : Nat) (hv0 : K v0 = 5) (h : f_NT_branchesToWrite G v0 M = some out) : Met l y_NT_branchesToWrite w_NT_branchesToWrite rm_NT_branchesToWrite (va_Pc [.ref v0] (Wp E K G L M sz)) (QI E K G L sz out M) 0 0 (AL L sz) := by
  refine Met.ofW (cc := b_NT_branchesToWrite) (maxL := 4) (ret := (some .int)) (by decide) rfl ?_
  intro p e s m av below meth c s₁ B hml hv
  obtain ⟨rfl, hWp⟩ := hv
  have hWd := Wd.start hWp
  obtain ⟨rfl, -⟩ := hWp
  have hX : CallFix p m c b_NT_branchesToWrite 4 s _ w_NT_branchesToWrite "NibbleTrie" := ⟨B.exec, B.bytes, hml, findClass_of_methodNamed B.named, atoms_spec (ws := w_NT_branchesToWrite) B.pre⟩
  have hx := hX.1
  have hb := hX.2.1
  have hown := hX.2.2.2.1
  have hts := hX.2.2.2.2
  have hr := B.returns
  have hlk := B.notSynchronized
  have hl := lv_entry ([.ref v0]) (n := 4) (Nat.le_of_ble_eq_true rfl)
  rw [lg_entry_eq]
  generalize (lg_sl ([.ref v0]) ++ List.replicate (4 - (lg_sl ([.ref v0])).length) Slot.unset).toArray = ls at hl ⊢
  have hl : lv_has ls 4 [(0, .ref v0)] := hl
  unfold f_NT_branchesToWrite at h
  refine lv_iconst (v := 0) hx hb d_NT_branchesToWrite_0 (by decide) ?_
  refine lv_istore_n (lv' := [(1, .int 0), (0, .ref v0)]) hx hb d_NT_branchesToWrite_1 rfl hl (by decide) rfl (fun ls hl => ?_)
  refine lv_iconst (v := 0) hx hb d_NT_branchesToWrite_2 (by decide) ?_
  refine lv_istore_n (lv' := [(2, .int 0), (1, .int 0), (0, .ref v0)]) hx hb d_NT_branchesToWrite_3 rfl hl (by decide) rfl (fun ls hl => ?_)
  exact w_NT_branchesToWrite_4 hX hr hlk FU v0 0 0 M _ _ _ hv0 (lv_sub hl [2, 1, 0] rfl) hWd h
set_option maxHeartbeats 4000000 in
set_option maxRecDepth 100000 in
theorem m_NT_goDown (l : Launch) {E : En} {K G : Nat → Nat} {L : List Nat} {M : Mm} {sz : Nat} {out : Mm} (v0 : Nat) (hv0 : K v0 = 5) (h : f_NT_goDown G v0 M = some out) : Met l y_NT_goDown w_NT_goDown rm_NT_goDown (va_Pc [.ref v0] (Wp E K G L M sz)) (QV E K G L sz out) 0 0 (AL L sz) := by
  refine Met.ofW (cc := b_NT_goDown) (maxL := 1) (ret := none) (by decide) rfl ?_
  intro p e s m av below meth c s₁ B hml hv
  obtain ⟨rfl, hWp⟩ := hv
  have hWd := Wd.start hWp
  obtain ⟨rfl, -⟩ := hWp
  have hX : CallFix p m c b_NT_goDown 1 s _ w_NT_goDown "NibbleTrie" := ⟨B.exec, B.bytes, hml, findClass_of_methodNamed B.named, atoms_spec (ws := w_NT_goDown) B.pre⟩
  have hx := hX.1
  have hb := hX.2.1
  have hown := hX.2.2.2.1
  have hts := hX.2.2.2.2
  have hr := B.returns
  have hlk := B.notSynchronized
  have hl := lv_entry ([.ref v0]) (n := 1) (Nat.le_of_ble_eq_true rfl)
  rw [lg_entry_eq]
  generalize (lg_sl ([.ref v0]) ++ List.replicate (1 - (lg_sl ([.ref v0])).length) Slot.unset).toArray = ls at hl ⊢
  have hl : lv_has ls 1 [(0, .ref v0)] := hl
  unfold f_NT_goDown at h
  refine lv_aload_n hx hb d_NT_goDown_0 rfl (lv_at hl 0 rfl) ?_
  refine g_NT_working hX t_123 hWd hv0 d_NT_goDown_1 ?_
  have q1 := v_NT_working hWd hv0
  refine lv_aload_n hx hb d_NT_goDown_4 rfl (lv_at hl 0 rfl) ?_
  refine g_NT_kept hX t_124 hWd hv0 d_NT_goDown_5 ?_
  have q2 := v_NT_kept hWd hv0
  refine lv_iconst (v := 0) hx hb d_NT_goDown_8 (by decide) ?_
  obtain ⟨j3, hj3, h⟩ := ob h
  refine r_tald hX hWd q2 hj3 d_NT_goDown_9 ?_
  have q4 := v_tel hWd q2 hj3
  obtain ⟨q5, hq5, h⟩ := ob h
  refine kc_v (va_runV (As := [.ref (gr M (gr M v0 1) j3)]) (rest := []) hX (m_TR_becomeLike l  (gr M v0 0) (gr M (gr M v0 1) j3) q1 q4 hq5) (cb_TR_becomeLike hts t_279 ⟨Nat.le_of_ble_eq_true rfl, Nat.le_of_ble_eq_true rfl⟩) (pv_TR hWd q1) rfl rfl hl.1 rfl (lv_room (Nat.le_of_ble_eq_true rfl)) d_NT_goDown_10 ⟨Nat.zero_le _, Nat.zero_le _⟩) hWd (fun H locs hWd => ?_)
  obtain rfl := Option.some.inj h
  exact e_vret hX hr hlk hWd d_NT_goDown_13
set_option maxHeartbeats 4000000 in
set_option maxRecDepth 100000 in
theorem w_NT_keepWorking_17 {p : Program} {l : Launch} {e : Env} {s : State} {m : MethodId} {args : Array Value} {below : List Frame} {meth : Method} {c : Code} {E : En} {K G : Nat → Nat} {L : List Nat} (hX : CallFix p m c b_NT_keepWorking 4 s args w_NT_keepWorking "NibbleTrie") (hr : meth.sig.returnType = none) (hlk : meth.locks = false) {out : Mm} : ∀ (n : Nat) (v0 : Nat) (v2 : Nat) (v3 : Int32) (M : Mm) (H : Heap) (locs : List Loc) (ls : Array Slot), K v0 = 5 → K v2 = 6 → lv_has ls 4 [(0, .ref v0), (2, .ref v2), (3, .int v3)] → Wd E K G L M s.heap H locs s → f_NT_keepWorking_17 G n v0 v2 v3 M = some out → W p l e rm_NT_keepWorking s m args below meth c H locs 0 0 (MQ below (QV E K G L s.heap.size out) args s 0 0 (AL L s.heap.size)) (F0 m 17 ls []) := by
  have hx := hX.1
  have hb := hX.2.1
  have hown := hX.2.2.2.1
  have hts := hX.2.2.2.2
  intro n
  induction n with
  | zero => intro _ _ _ _ _ _ _ _ _ _ _ h; rw [f_NT_keepWorking_17] at h; cases h
  | succ n ih =>
    intro v0 v2 v3 M H locs ls hv0 hv2 hl hWd h
    rw [f_NT_keepWorking_17] at h
    refine lv_iload_n hx hb d_NT_keepWorking_17 rfl (lv_at hl 2 rfl) ?_
    refine lv_if_le (tgt := 41) hx hb d_NT_keepWorking_18 (by decide) (fun hc => ?_) (fun hc => ?_)
    · replace h := ifP h hc
      refine lv_aload_n hx hb d_NT_keepWorking_41 rfl (lv_at hl 0 rfl) ?_
      refine g_NT_kept hX t_124 hWd hv0 d_NT_keepWorking_42 ?_
      have q1 := v_NT_kept hWd hv0
      refine lv_iconst (v := 0) hx hb d_NT_keepWorking_45 (by decide) ?_
      refine lv_aload_n hx hb d_NT_keepWorking_46 rfl (lv_at hl 1 rfl) ?_
      obtain ⟨j2, hj2, h⟩ := ob h
      refine r_tast hX hWd q1 hv2 hj2 d_NT_keepWorking_47 (fun H locs hWd => ?_)
      obtain ⟨M3, eM3, h⟩ := stE h
      rw [← eM3] at hWd
      refine lv_aload_n hx hb d_NT_keepWorking_48 rfl (lv_at hl 1 rfl) ?_
      refine lv_aload_n hx hb d_NT_keepWorking_49 rfl (lv_at hl 0 rfl) ?_
      refine g_NT_working hX t_123 hWd hv0 d_NT_keepWorking_50 ?_
      have q4 := v_NT_working hWd hv0
      obtain ⟨q5, hq5, h⟩ := ob h
      refine kc_v (va_runV (As := [.ref (gr M3 v0 0)]) (rest := []) hX (m_TR_becomeLike l  v2 (gr M3 v0 0) hv2 q4 hq5) (cb_TR_becomeLike hts t_279 ⟨Nat.le_of_ble_eq_true rfl, Nat.le_of_ble_eq_true rfl⟩) (pv_TR hWd hv2) rfl rfl hl.1 rfl (lv_room (Nat.le_of_ble_eq_true rfl)) d_NT_keepWorking_53 ⟨Nat.zero_le _, Nat.zero_le _⟩) hWd (fun H locs hWd => ?_)
      refine lv_aload_n hx hb d_NT_keepWorking_56 rfl (lv_at hl 0 rfl) ?_
      refine lv_aload_n hx hb d_NT_keepWorking_57 rfl (lv_at hl 0 rfl) ?_
      refine g_NT_keptNow hX t_125 hWd hv0 d_NT_keepWorking_58 ?_
      refine lv_iconst (v := 1) hx hb d_NT_keepWorking_61 (by decide) ?_
      refine lv_iadd hx hb d_NT_keepWorking_62 ?_
      refine lv_aload_n hx hb d_NT_keepWorking_63 rfl (lv_at hl 0 rfl) ?_
      refine g_NT_kept hX t_124 hWd hv0 d_NT_keepWorking_64 ?_
      have q6 := v_NT_kept hWd hv0
      refine r_len (k := 0) hX hWd q6 d_NT_keepWorking_67 ?_
      refine r_mmin hX t_116 hl.1 (Nat.le_of_ble_eq_true rfl) (Nat.le_of_ble_eq_true rfl) d_NT_keepWorking_68 ?_
      refine p_NT_keptNow hX t_125 hWd hv0 d_NT_keepWorking_71 (fun H locs hWd => ?_)
      obtain ⟨M7, eM7, h⟩ := stE h
      rw [← eM7] at hWd
      obtain rfl := Option.some.inj h
      exact e_vret hX hr hlk hWd d_NT_keepWorking_74
    · replace h := ifN h hc
      refine lv_aload_n hx hb d_NT_keepWorking_21 rfl (lv_at hl 0 rfl) ?_
      refine g_NT_kept hX t_124 hWd hv0 d_NT_keepWorking_22 ?_
      have q8 := v_NT_kept hWd hv0
      refine lv_iload_n hx hb d_NT_keepWorking_25 rfl (lv_at hl 2 rfl) ?_
      refine lv_aload_n hx hb d_NT_keepWorking_26 rfl (lv_at hl 0 rfl) ?_
      refine g_NT_kept hX t_124 hWd hv0 d_NT_keepWorking_27 ?_
      have q9 := v_NT_kept hWd hv0
      refine lv_iload_n hx hb d_NT_keepWorking_30 rfl (lv_at hl 2 rfl) ?_
      refine lv_iconst (v := 1) hx hb d_NT_keepWorking_31 (by decide) ?_
      refine lv_isub hx hb d_NT_keepWorking_32 ?_
      obtain ⟨j10, hj10, h⟩ := ob h
      refine r_tald hX hWd q9 hj10 d_NT_keepWorking_33 ?_
      have q11 := v_tel hWd q9 hj10
      obtain ⟨j12, hj12, h⟩ := ob h
      refine r_tast hX hWd q8 q11 hj12 d_NT_keepWorking_34 (fun H locs hWd => ?_)
      obtain ⟨M13, eM13, h⟩ := stE h
      rw [← eM13] at hWd
      refine lv_iinc (k := 2) (v := (v3 + (-1))) (lv' := [(3, .int (v3 + (-1))), (0, .ref v0), (2, .ref v2)]) hx hb d_NT_keepWorking_35 hl rfl (by rfl) (by decide) rfl (fun ls hl => ?_)
      refine lv_goto (tgt := 17) hx hb d_NT_keepWorking_38 (by decide) ?_
      exact ih v0 v2 (v3 + (-1)) M13 _ _ _ hv0 hv2 (lv_sub hl [1, 2, 0] rfl) hWd h
set_option maxHeartbeats 4000000 in
set_option maxRecDepth 100000 in
theorem m_NT_keepWorking (l : Launch) {E : En} {K G : Nat → Nat} {L : List Nat} {M : Mm} {sz : Nat} {out : Mm} (v0 : Nat) (hv0 : K v0 = 5) (h : f_NT_keepWorking G v0 M = some out) : Met l y_NT_keepWorking w_NT_keepWorking rm_NT_keepWorking (va_Pc [.ref v0] (Wp E K G L M sz)) (QV E K G L sz out) 0 0 (AL L sz) := by
  refine Met.ofW (cc := b_NT_keepWorking) (maxL := 4) (ret := none) (by decide) rfl ?_
  intro p e s m av below meth c s₁ B hml hv
  obtain ⟨rfl, hWp⟩ := hv
  have hWd := Wd.start hWp
  obtain ⟨rfl, -⟩ := hWp
  have hX : CallFix p m c b_NT_keepWorking 4 s _ w_NT_keepWorking "NibbleTrie" := ⟨B.exec, B.bytes, hml, findClass_of_methodNamed B.named, atoms_spec (ws := w_NT_keepWorking) B.pre⟩
  have hx := hX.1
  have hb := hX.2.1
  have hown := hX.2.2.2.1
  have hts := hX.2.2.2.2
  have hr := B.returns
  have hlk := B.notSynchronized
  have hl := lv_entry ([.ref v0]) (n := 4) (Nat.le_of_ble_eq_true rfl)
  rw [lg_entry_eq]
  generalize (lg_sl ([.ref v0]) ++ List.replicate (4 - (lg_sl ([.ref v0])).length) Slot.unset).toArray = ls at hl ⊢
  have hl : lv_has ls 4 [(0, .ref v0)] := hl
  unfold f_NT_keepWorking at h
  refine lv_aload_n hx hb d_NT_keepWorking_0 rfl (lv_at hl 0 rfl) ?_
  refine g_NT_kept hX t_124 hWd hv0 d_NT_keepWorking_1 ?_
  have q1 := v_NT_kept hWd hv0
  refine r_len (k := 0) hX hWd q1 d_NT_keepWorking_4 ?_
  refine lv_iconst (v := 1) hx hb d_NT_keepWorking_5 (by decide) ?_
  refine lv_isub hx hb d_NT_keepWorking_6 ?_
  refine lv_topi (fun x2 ex2 => ?_)
  replace h := stA h ex2
  refine lv_istore_n (lv' := [(1, .int x2), (0, .ref v0)]) hx hb d_NT_keepWorking_7 rfl hl (by decide) rfl (fun ls hl => ?_)
  refine lv_aload_n hx hb d_NT_keepWorking_8 rfl (lv_at hl 1 rfl) ?_
  refine g_NT_kept hX t_124 hWd hv0 d_NT_keepWorking_9 ?_
  have q3 := v_NT_kept hWd hv0
  refine lv_iload_n hx hb d_NT_keepWorking_12 rfl (lv_at hl 0 rfl) ?_
  obtain ⟨j4, hj4, h⟩ := ob h
  refine r_tald hX hWd q3 hj4 d_NT_keepWorking_13 ?_
  have q5 := v_tel hWd q3 hj4
  refine lv_astore_n (lv' := [(2, .ref (gr M (gr M v0 1) j4)), (1, .int x2), (0, .ref v0)]) hx hb d_NT_keepWorking_14 rfl hl (by decide) rfl (fun ls hl => ?_)
  refine lv_iload_n hx hb d_NT_keepWorking_15 rfl (lv_at hl 1 rfl) ?_
  refine lv_istore_n (lv' := [(3, .int x2), (2, .ref (gr M (gr M v0 1) j4)), (1, .int x2), (0, .ref v0)]) hx hb d_NT_keepWorking_16 rfl hl (by decide) rfl (fun ls hl => ?_)
  exact w_NT_keepWorking_17 hX hr hlk FU v0 (gr M (gr M v0 1) j4) x2 M _ _ _ hv0 q5 (lv_sub hl [3, 1, 0] rfl) hWd h
set_option maxHeartbeats 4000000 in
set_option maxRecDepth 100000 in
theorem m_NT_commit (l : Launch) {E : En} {K G : Nat → Nat} {L : List Nat} {M : Mm} {sz : Nat} {out : Int32 × Mm} (v0 : Nat) (v1 : Int32) (hv0 : K v0 = 5) (h : f_NT_commit G v0 v1 M = some out) : Met l y_NT_commit w_NT_commit rm_NT_commit (va_Pc [.ref v0, .int v1] (Wp E K G L M sz)) (QI E K G L sz out.1 out.2) 0 0 (AL L sz) := by
  refine Met.ofW (cc := b_NT_commit) (maxL := 3) (ret := (some .int)) (by decide) rfl ?_
  intro p e s m av below meth c s₁ B hml hv
  obtain ⟨rfl, hWp⟩ := hv
  have hWd := Wd.start hWp
  obtain ⟨rfl, -⟩ := hWp
  have hX : CallFix p m c b_NT_commit 3 s _ w_NT_commit "NibbleTrie" := ⟨B.exec, B.bytes, hml, findClass_of_methodNamed B.named, atoms_spec (ws := w_NT_commit) B.pre⟩
  have hx := hX.1
  have hb := hX.2.1
  have hown := hX.2.2.2.1
  have hts := hX.2.2.2.2
  have hr := B.returns
  have hlk := B.notSynchronized
  have hl := lv_entry ([.ref v0, .int v1]) (n := 3) (Nat.le_of_ble_eq_true rfl)
  rw [lg_entry_eq]
  generalize (lg_sl ([.ref v0, .int v1]) ++ List.replicate (3 - (lg_sl ([.ref v0, .int v1])).length) Slot.unset).toArray = ls at hl ⊢
  have hl : lv_has ls 3 [(0, .ref v0), (1, .int v1)] := hl
  unfold f_NT_commit at h
  refine lv_aload_n hx hb d_NT_commit_0 rfl (lv_at hl 0 rfl) ?_
  obtain ⟨q1, hq1, h⟩ := ob h
  refine kc_i (va_runV (As := []) (rest := []) hX (m_NT_branchesToWrite l  v0 hv0 hq1) (cb_NT_branchesToWrite hts t_259 ⟨Nat.le_of_ble_eq_true rfl, Nat.le_of_ble_eq_true rfl⟩) (pv_NT hWd hv0) rfl rfl hl.1 rfl (lv_room (Nat.le_of_ble_eq_true rfl)) d_NT_commit_1 ⟨Nat.zero_le _, Nat.zero_le _⟩) hWd (fun H locs hWd => ?_)
  refine lv_istore_n (lv' := [(2, .int q1), (0, .ref v0), (1, .int v1)]) hx hb d_NT_commit_4 rfl hl (by decide) rfl (fun ls hl => ?_)
  refine lv_iload_n hx hb d_NT_commit_5 rfl (lv_at hl 2 rfl) ?_
  refine lv_iload_n hx hb d_NT_commit_6 rfl (lv_at hl 0 rfl) ?_
  refine lv_iconst (v := 1) hx hb d_NT_commit_7 (by decide) ?_
  refine lv_iadd hx hb d_NT_commit_8 ?_
  refine lv_icmp_ge (tgt := 18) hx hb d_NT_commit_9 (by decide) (fun hc => ?_) (fun hc => ?_)
  · replace h := ifP h hc
    refine lv_aload_n hx hb d_NT_commit_18 rfl (lv_at hl 1 rfl) ?_
    obtain ⟨q2, hq2, h⟩ := ob h
    refine kc_v (va_runV (As := []) (rest := []) hX (m_NT_keepWorking l  v0 hv0 hq2) (cb_NT_keepWorking hts t_291 ⟨Nat.le_of_ble_eq_true rfl, Nat.le_of_ble_eq_true rfl⟩) (pv_NT hWd hv0) rfl rfl hl.1 rfl (lv_room (Nat.le_of_ble_eq_true rfl)) d_NT_commit_19 ⟨Nat.zero_le _, Nat.zero_le _⟩) hWd (fun H locs hWd => ?_)
    refine lv_iload_n hx hb d_NT_commit_22 rfl (lv_at hl 0 rfl) ?_
    obtain rfl := Option.some.inj h
    exact e_iret hX hr hlk hWd d_NT_commit_23
  · replace h := ifN h hc
    refine lv_aload_n hx hb d_NT_commit_12 rfl (lv_at hl 1 rfl) ?_
    obtain ⟨q3, hq3, h⟩ := ob h
    refine kc_v (va_runV (As := []) (rest := []) hX (m_NT_goDown l  v0 hv0 hq3) (cb_NT_goDown hts t_275 ⟨Nat.le_of_ble_eq_true rfl, Nat.le_of_ble_eq_true rfl⟩) (pv_NT hWd hv0) rfl rfl hl.1 rfl (lv_room (Nat.le_of_ble_eq_true rfl)) d_NT_commit_13 ⟨Nat.zero_le _, Nat.zero_le _⟩) hWd (fun H locs hWd => ?_)
    refine lv_iconst (v := (-1)) hx hb d_NT_commit_16 (by decide) ?_
    obtain rfl := Option.some.inj h
    exact e_iret hX hr hlk hWd d_NT_commit_17
set_option maxHeartbeats 4000000 in
set_option maxRecDepth 100000 in
theorem m_NT_crash (l : Launch) {E : En} {K G : Nat → Nat} {L : List Nat} {M : Mm} {sz : Nat} {out : Int32 × Mm} (v0 : Nat) (hv0 : K v0 = 5) (h : f_NT_crash G v0 M = some out) : Met l y_NT_crash w_NT_crash rm_NT_crash (va_Pc [.ref v0] (Wp E K G L M sz)) (QI E K G L sz out.1 out.2) 0 0 (AL L sz) := by
  refine Met.ofW (cc := b_NT_crash) (maxL := 1) (ret := (some .int)) (by decide) rfl ?_
  intro p e s m av below meth c s₁ B hml hv
  obtain ⟨rfl, hWp⟩ := hv
  have hWd := Wd.start hWp
  obtain ⟨rfl, -⟩ := hWp
  have hX : CallFix p m c b_NT_crash 1 s _ w_NT_crash "NibbleTrie" := ⟨B.exec, B.bytes, hml, findClass_of_methodNamed B.named, atoms_spec (ws := w_NT_crash) B.pre⟩
  have hx := hX.1
  have hb := hX.2.1
  have hown := hX.2.2.2.1
  have hts := hX.2.2.2.2
  have hr := B.returns
  have hlk := B.notSynchronized
  have hl := lv_entry ([.ref v0]) (n := 1) (Nat.le_of_ble_eq_true rfl)
  rw [lg_entry_eq]
  generalize (lg_sl ([.ref v0]) ++ List.replicate (1 - (lg_sl ([.ref v0])).length) Slot.unset).toArray = ls at hl ⊢
  have hl : lv_has ls 1 [(0, .ref v0)] := hl
  unfold f_NT_crash at h
  refine lv_aload_n hx hb d_NT_crash_0 rfl (lv_at hl 0 rfl) ?_
  obtain ⟨q1, hq1, h⟩ := ob h
  refine kc_v (va_runV (As := []) (rest := []) hX (m_NT_goDown l  v0 hv0 hq1) (cb_NT_goDown hts t_275 ⟨Nat.le_of_ble_eq_true rfl, Nat.le_of_ble_eq_true rfl⟩) (pv_NT hWd hv0) rfl rfl hl.1 rfl (lv_room (Nat.le_of_ble_eq_true rfl)) d_NT_crash_1 ⟨Nat.zero_le _, Nat.zero_le _⟩) hWd (fun H locs hWd => ?_)
  refine lv_aload_n hx hb d_NT_crash_4 rfl (lv_at hl 0 rfl) ?_
  refine g_NT_working hX t_123 hWd hv0 d_NT_crash_5 ?_
  have q2 := v_NT_working hWd hv0
  refine g_TR_map hX t_47 hWd q2 d_NT_crash_8 ?_
  have q3 := v_TR_map hWd q2
  refine g_PM_rows hX t_34 hWd q3 d_NT_crash_11 ?_
  obtain rfl := Option.some.inj h
  exact e_iret hX hr hlk hWd d_NT_crash_14
set_option maxHeartbeats 4000000 in
set_option maxRecDepth 100000 in
theorem m_NT_versions (l : Launch) {E : En} {K G : Nat → Nat} {L : List Nat} {M : Mm} {sz : Nat} {out : Int32} (v0 : Nat) (hv0 : K v0 = 5) (h : f_NT_versions G v0 M = out) : Met l y_NT_versions w_NT_versions rm_NT_versions (va_Pc [.ref v0] (Wp E K G L M sz)) (QI E K G L sz out M) 0 0 (AL L sz) := by
  refine Met.ofW (cc := b_NT_versions) (maxL := 1) (ret := (some .int)) (by decide) rfl ?_
  intro p e s m av below meth c s₁ B hml hv
  obtain ⟨rfl, hWp⟩ := hv
  have hWd := Wd.start hWp
  obtain ⟨rfl, -⟩ := hWp
  have hX : CallFix p m c b_NT_versions 1 s _ w_NT_versions "NibbleTrie" := ⟨B.exec, B.bytes, hml, findClass_of_methodNamed B.named, atoms_spec (ws := w_NT_versions) B.pre⟩
  have hx := hX.1
  have hb := hX.2.1
  have hown := hX.2.2.2.1
  have hts := hX.2.2.2.2
  have hr := B.returns
  have hlk := B.notSynchronized
  have hl := lv_entry ([.ref v0]) (n := 1) (Nat.le_of_ble_eq_true rfl)
  rw [lg_entry_eq]
  generalize (lg_sl ([.ref v0]) ++ List.replicate (1 - (lg_sl ([.ref v0])).length) Slot.unset).toArray = ls at hl ⊢
  have hl : lv_has ls 1 [(0, .ref v0)] := hl
  unfold f_NT_versions at h
  refine lv_aload_n hx hb d_NT_versions_0 rfl (lv_at hl 0 rfl) ?_
  refine g_NT_keptNow hX t_125 hWd hv0 d_NT_versions_1 ?_
  subst h
  exact e_iret hX hr hlk hWd d_NT_versions_4
set_option maxHeartbeats 4000000 in
set_option maxRecDepth 100000 in
theorem m_NT_isKept (l : Launch) {E : En} {K G : Nat → Nat} {L : List Nat} {M : Mm} {sz : Nat} {out : Int32} (v0 : Nat) (v1 : Int32) (hv0 : K v0 = 5) (h : f_NT_isKept G v0 v1 M = out) : Met l y_NT_isKept w_NT_isKept rm_NT_isKept (va_Pc [.ref v0, .int v1] (Wp E K G L M sz)) (QZ E K G L sz out M) 0 0 (AL L sz) := by
  refine Met.ofW (cc := b_NT_isKept) (maxL := 2) (ret := (some .boolean)) (by decide) rfl ?_
  intro p e s m av below meth c s₁ B hml hv
  obtain ⟨rfl, hWp⟩ := hv
  have hWd := Wd.start hWp
  obtain ⟨rfl, -⟩ := hWp
  have hX : CallFix p m c b_NT_isKept 2 s _ w_NT_isKept "NibbleTrie" := ⟨B.exec, B.bytes, hml, findClass_of_methodNamed B.named, atoms_spec (ws := w_NT_isKept) B.pre⟩
  have hx := hX.1
  have hb := hX.2.1
  have hown := hX.2.2.2.1
  have hts := hX.2.2.2.2
  have hr := B.returns
  have hlk := B.notSynchronized
  have hl := lv_entry ([.ref v0, .int v1]) (n := 2) (Nat.le_of_ble_eq_true rfl)
  rw [lg_entry_eq]
  generalize (lg_sl ([.ref v0, .int v1]) ++ List.replicate (2 - (lg_sl ([.ref v0, .int v1])).length) Slot.unset).toArray = ls at hl ⊢
  have hl : lv_has ls 2 [(0, .ref v0), (1, .int v1)] := hl
  unfold f_NT_isKept at h
  refine lv_iload_n hx hb d_NT_isKept_0 rfl (lv_at hl 1 rfl) ?_
  refine lv_if_lt (tgt := 16) hx hb d_NT_isKept_1 (by decide) (fun hc => ?_) (fun hc => ?_)
  · replace h := ifP h hc
    refine lv_iconst (v := 0) hx hb d_NT_isKept_16 (by decide) ?_
    subst h
    exact e_zret hX hr hlk hWd (Or.inl rfl) d_NT_isKept_17
  · replace h := ifN h hc
    refine lv_iload_n hx hb d_NT_isKept_4 rfl (lv_at hl 1 rfl) ?_
    refine lv_aload_n hx hb d_NT_isKept_5 rfl (lv_at hl 0 rfl) ?_
    refine g_NT_keptNow hX t_125 hWd hv0 d_NT_isKept_6 ?_
    refine lv_icmp_ge (tgt := 16) hx hb d_NT_isKept_9 (by decide) (fun hc => ?_) (fun hc => ?_)
    · replace h := ifP h hc
      refine lv_iconst (v := 0) hx hb d_NT_isKept_16 (by decide) ?_
      subst h
      exact e_zret hX hr hlk hWd (Or.inl rfl) d_NT_isKept_17
    · replace h := ifN h hc
      refine lv_iconst (v := 1) hx hb d_NT_isKept_12 (by decide) ?_
      refine lv_goto (tgt := 17) hx hb d_NT_isKept_13 (by decide) ?_
      subst h
      exact e_zret hX hr hlk hWd (Or.inr rfl) d_NT_isKept_17
set_option maxHeartbeats 4000000 in
set_option maxRecDepth 100000 in
theorem m_NT_at (l : Launch) {E : En} {K G : Nat → Nat} {L : List Nat} {M : Mm} {sz : Nat} {out : Int32} (v0 : Nat) (v1 : Int32) (v2 : Int32) (hv0 : K v0 = 5) (h : f_NT_at G v0 v1 v2 M = some out) : Met l y_NT_at w_NT_at rm_NT_at (va_Pc [.ref v0, .int v1, .int v2] (Wp E K G L M sz)) (QI E K G L sz out M) 0 0 (AL L sz) := by
  refine Met.ofW (cc := b_NT_at) (maxL := 3) (ret := (some .int)) (by decide) rfl ?_
  intro p e s m av below meth c s₁ B hml hv
  obtain ⟨rfl, hWp⟩ := hv
  have hWd := Wd.start hWp
  obtain ⟨rfl, -⟩ := hWp
  have hX : CallFix p m c b_NT_at 3 s _ w_NT_at "NibbleTrie" := ⟨B.exec, B.bytes, hml, findClass_of_methodNamed B.named, atoms_spec (ws := w_NT_at) B.pre⟩
  have hx := hX.1
  have hb := hX.2.1
  have hown := hX.2.2.2.1
  have hts := hX.2.2.2.2
  have hr := B.returns
  have hlk := B.notSynchronized
  have hl := lv_entry ([.ref v0, .int v1, .int v2]) (n := 3) (Nat.le_of_ble_eq_true rfl)
  rw [lg_entry_eq]
  generalize (lg_sl ([.ref v0, .int v1, .int v2]) ++ List.replicate (3 - (lg_sl ([.ref v0, .int v1, .int v2])).length) Slot.unset).toArray = ls at hl ⊢
  have hl : lv_has ls 3 [(0, .ref v0), (1, .int v1), (2, .int v2)] := hl
  unfold f_NT_at at h
  refine lv_aload_n hx hb d_NT_at_0 rfl (lv_at hl 0 rfl) ?_
  refine lv_iload_n hx hb d_NT_at_1 rfl (lv_at hl 1 rfl) ?_
  refine kc_z (va_runV (As := [.int v1]) (rest := []) hX (m_NT_isKept l  v0 v1 hv0 rfl) (cb_NT_isKept hts t_307 ⟨Nat.le_of_ble_eq_true rfl, Nat.le_of_ble_eq_true rfl⟩) (pv_NT hWd hv0) rfl rfl hl.1 rfl (lv_room (Nat.le_of_ble_eq_true rfl)) d_NT_at_2 ⟨Nat.zero_le _, Nat.zero_le _⟩) hWd (fun z1 H locs hWd => ?_)
  refine lv_if_eq (tgt := 24) hx hb d_NT_at_5 (by decide) (fun hc => ?_) (fun hc => ?_)
  · replace h := ifP h hc
    refine lv_iconst (v := 0) hx hb d_NT_at_24 (by decide) ?_
    obtain rfl := Option.some.inj h
    exact e_iret hX hr hlk hWd d_NT_at_25
  · replace h := ifN h hc
    refine lv_aload_n hx hb d_NT_at_8 rfl (lv_at hl 0 rfl) ?_
    refine g_NT_kept hX t_124 hWd hv0 d_NT_at_9 ?_
    have q2 := v_NT_kept hWd hv0
    refine lv_iload_n hx hb d_NT_at_12 rfl (lv_at hl 1 rfl) ?_
    obtain ⟨j3, hj3, h⟩ := ob h
    refine r_tald hX hWd q2 hj3 d_NT_at_13 ?_
    have q4 := v_tel hWd q2 hj3
    refine g_TR_map hX t_47 hWd q4 d_NT_at_14 ?_
    have q5 := v_TR_map hWd q4
    refine lv_iload_n hx hb d_NT_at_17 rfl (lv_at hl 2 rfl) ?_
    obtain ⟨q6, hq6, h⟩ := ob h
    refine kc_i (va_runV (As := [.int v2]) (rest := []) hX (m_PM_valueOf l  (gr M (gr M (gr M v0 1) j3) 0) v2 q5 hq6) (cb_PM_valueOf hts t_211 ⟨Nat.le_of_ble_eq_true rfl, Nat.le_of_ble_eq_true rfl⟩) (pv_PM hWd q5) rfl rfl hl.1 rfl (lv_room (Nat.le_of_ble_eq_true rfl)) d_NT_at_18 ⟨Nat.zero_le _, Nat.zero_le _⟩) hWd (fun H locs hWd => ?_)
    refine lv_goto (tgt := 25) hx hb d_NT_at_21 (by decide) ?_
    obtain rfl := Option.some.inj h
    exact e_iret hX hr hlk hWd d_NT_at_25
set_option maxHeartbeats 4000000 in
set_option maxRecDepth 100000 in
theorem m_NT_rootAt (l : Launch) {E : En} {K G : Nat → Nat} {L : List Nat} {M : Mm} {sz : Nat} {out : Int64 × Mm} (v0 : Nat) (v1 : Int32) (hv0 : K v0 = 5) (h : f_NT_rootAt G v0 v1 M = some out) : Met l y_NT_rootAt w_NT_rootAt rm_NT_rootAt (va_Pc [.ref v0, .int v1] (Wp E K G L M sz)) (QL E K G L sz out.1 out.2) 0 0 (AL L sz) := by
  refine Met.ofW (cc := b_NT_rootAt) (maxL := 2) (ret := (some .long)) (by decide) rfl ?_
  intro p e s m av below meth c s₁ B hml hv
  obtain ⟨rfl, hWp⟩ := hv
  have hWd := Wd.start hWp
  obtain ⟨rfl, -⟩ := hWp
  have hX : CallFix p m c b_NT_rootAt 2 s _ w_NT_rootAt "NibbleTrie" := ⟨B.exec, B.bytes, hml, findClass_of_methodNamed B.named, atoms_spec (ws := w_NT_rootAt) B.pre⟩
  have hx := hX.1
  have hb := hX.2.1
  have hown := hX.2.2.2.1
  have hts := hX.2.2.2.2
  have hr := B.returns
  have hlk := B.notSynchronized
  have hl := lv_entry ([.ref v0, .int v1]) (n := 2) (Nat.le_of_ble_eq_true rfl)
  rw [lg_entry_eq]
  generalize (lg_sl ([.ref v0, .int v1]) ++ List.replicate (2 - (lg_sl ([.ref v0, .int v1])).length) Slot.unset).toArray = ls at hl ⊢
  have hl : lv_has ls 2 [(0, .ref v0), (1, .int v1)] := hl
  unfold f_NT_rootAt at h
  refine lv_aload_n hx hb d_NT_rootAt_0 rfl (lv_at hl 0 rfl) ?_
  refine lv_iload_n hx hb d_NT_rootAt_1 rfl (lv_at hl 1 rfl) ?_
  refine kc_z (va_runV (As := [.int v1]) (rest := []) hX (m_NT_isKept l  v0 v1 hv0 rfl) (cb_NT_isKept hts t_307 ⟨Nat.le_of_ble_eq_true rfl, Nat.le_of_ble_eq_true rfl⟩) (pv_NT hWd hv0) rfl rfl hl.1 rfl (lv_room (Nat.le_of_ble_eq_true rfl)) d_NT_rootAt_2 ⟨Nat.zero_le _, Nat.zero_le _⟩) hWd (fun z1 H locs hWd => ?_)
  refine lv_if_eq (tgt := 20) hx hb d_NT_rootAt_5 (by decide) (fun hc => ?_) (fun hc => ?_)
  · replace h := ifP h hc
    refine lv_lconst (v := 0) hx hb d_NT_rootAt_20 (by decide) ?_
    obtain rfl := Option.some.inj h
    exact e_lret hX hr hlk hWd d_NT_rootAt_21
  · replace h := ifN h hc
    refine lv_aload_n hx hb d_NT_rootAt_8 rfl (lv_at hl 0 rfl) ?_
    refine g_NT_kept hX t_124 hWd hv0 d_NT_rootAt_9 ?_
    have q2 := v_NT_kept hWd hv0
    refine lv_iload_n hx hb d_NT_rootAt_12 rfl (lv_at hl 1 rfl) ?_
    obtain ⟨j3, hj3, h⟩ := ob h
    refine r_tald hX hWd q2 hj3 d_NT_rootAt_13 ?_
    have q4 := v_tel hWd q2 hj3
    obtain ⟨q5, hq5, h⟩ := ob h
    refine kc_l (va_runV (As := []) (rest := []) hX (m_TR_rootNumber l  (gr M (gr M v0 1) j3) q4 hq5) (cb_TR_rootNumber hts t_224 ⟨Nat.le_of_ble_eq_true rfl, Nat.le_of_ble_eq_true rfl⟩) (pv_TR hWd q4) rfl rfl hl.1 rfl (lv_room (Nat.le_of_ble_eq_true rfl)) d_NT_rootAt_14 ⟨Nat.zero_le _, Nat.zero_le _⟩) hWd (fun H locs hWd => ?_)
    refine lv_goto (tgt := 21) hx hb d_NT_rootAt_17 (by decide) ?_
    obtain rfl := Option.some.inj h
    exact e_lret hX hr hlk hWd d_NT_rootAt_21
set_option maxHeartbeats 4000000 in
set_option maxRecDepth 100000 in
theorem m_NT_isFirstOfItsKind (l : Launch) {E : En} {K G : Nat → Nat} {L : List Nat} {M : Mm} {sz : Nat} {out : Int32} (v0 : Nat) (v1 : Int32) (v2 : Int32) (hv0 : K v0 = 5) (h : f_NT_isFirstOfItsKind G v0 v1 v2 M = some out) : Met l y_NT_isFirstOfItsKind w_NT_isFirstOfItsKind rm_NT_isFirstOfItsKind (va_Pc [.ref v0, .int v1, .int v2] (Wp E K G L M sz)) (QZ E K G L sz out M) 0 0 (AL L sz) := by
  refine Met.ofW (cc := b_NT_isFirstOfItsKind) (maxL := 3) (ret := (some .boolean)) (by decide) rfl ?_
  intro p e s m av below meth c s₁ B hml hv
  obtain ⟨rfl, hWp⟩ := hv
  have hWd := Wd.start hWp
  obtain ⟨rfl, -⟩ := hWp
  have hX : CallFix p m c b_NT_isFirstOfItsKind 3 s _ w_NT_isFirstOfItsKind "NibbleTrie" := ⟨B.exec, B.bytes, hml, findClass_of_methodNamed B.named, atoms_spec (ws := w_NT_isFirstOfItsKind) B.pre⟩
  have hx := hX.1
  have hb := hX.2.1
  have hown := hX.2.2.2.1
  have hts := hX.2.2.2.2
  have hr := B.returns
  have hlk := B.notSynchronized
  have hl := lv_entry ([.ref v0, .int v1, .int v2]) (n := 3) (Nat.le_of_ble_eq_true rfl)
  rw [lg_entry_eq]
  generalize (lg_sl ([.ref v0, .int v1, .int v2]) ++ List.replicate (3 - (lg_sl ([.ref v0, .int v1, .int v2])).length) Slot.unset).toArray = ls at hl ⊢
  have hl : lv_has ls 3 [(0, .ref v0), (1, .int v1), (2, .int v2)] := hl
  unfold f_NT_isFirstOfItsKind at h
  refine lv_aload_n hx hb d_NT_isFirstOfItsKind_0 rfl (lv_at hl 0 rfl) ?_
  refine lv_iload_n hx hb d_NT_isFirstOfItsKind_1 rfl (lv_at hl 1 rfl) ?_
  refine lv_aload_n hx hb d_NT_isFirstOfItsKind_2 rfl (lv_at hl 0 rfl) ?_
  refine g_NT_kept hX t_124 hWd hv0 d_NT_isFirstOfItsKind_3 ?_
  have q1 := v_NT_kept hWd hv0
  refine lv_iload_n hx hb d_NT_isFirstOfItsKind_6 rfl (lv_at hl 1 rfl) ?_
  obtain ⟨j2, hj2, h⟩ := ob h
  refine r_tald hX hWd q1 hj2 d_NT_isFirstOfItsKind_7 ?_
  have q3 := v_tel hWd q1 hj2
  refine lv_iload_n hx hb d_NT_isFirstOfItsKind_8 rfl (lv_at hl 2 rfl) ?_
  obtain ⟨q4, hq4, h⟩ := ob h
  refine kc_z (va_runV (As := [.int v1, .ref (gr M (gr M v0 1) j2), .int v2]) (rest := []) hX (m_NT_isAmongVersions l  v0 v1 (gr M (gr M v0 1) j2) v2 hv0 q3 hq4) (cb_NT_isAmongVersions hts t_271 ⟨Nat.le_of_ble_eq_true rfl, Nat.le_of_ble_eq_true rfl⟩) (pv_NT hWd hv0) rfl rfl hl.1 rfl (lv_room (Nat.le_of_ble_eq_true rfl)) d_NT_isFirstOfItsKind_9 ⟨Nat.zero_le _, Nat.zero_le _⟩) hWd (fun z5 H locs hWd => ?_)
  refine lv_if_ne (tgt := 39) hx hb d_NT_isFirstOfItsKind_12 (by decide) (fun hc => ?_) (fun hc => ?_)
  · replace h := ifN h hc
    refine lv_iconst (v := 0) hx hb d_NT_isFirstOfItsKind_39 (by decide) ?_
    obtain rfl := Option.some.inj h
    exact e_zret hX hr hlk hWd (Or.inl rfl) d_NT_isFirstOfItsKind_40
  · replace h := ifP h hc
    refine lv_aload_n hx hb d_NT_isFirstOfItsKind_15 rfl (lv_at hl 0 rfl) ?_
    refine g_NT_kept hX t_124 hWd hv0 d_NT_isFirstOfItsKind_16 ?_
    have q6 := v_NT_kept hWd hv0
    refine lv_iload_n hx hb d_NT_isFirstOfItsKind_19 rfl (lv_at hl 1 rfl) ?_
    obtain ⟨j7, hj7, h⟩ := ob h
    refine r_tald hX hWd q6 hj7 d_NT_isFirstOfItsKind_20 ?_
    have q8 := v_tel hWd q6 hj7
    refine lv_iload_n hx hb d_NT_isFirstOfItsKind_21 rfl (lv_at hl 2 rfl) ?_
    refine lv_aload_n hx hb d_NT_isFirstOfItsKind_22 rfl (lv_at hl 0 rfl) ?_
    refine g_NT_kept hX t_124 hWd hv0 d_NT_isFirstOfItsKind_23 ?_
    have q9 := v_NT_kept hWd hv0
    refine lv_iload_n hx hb d_NT_isFirstOfItsKind_26 rfl (lv_at hl 1 rfl) ?_
    obtain ⟨j10, hj10, h⟩ := ob h
    refine r_tald hX hWd q9 hj10 d_NT_isFirstOfItsKind_27 ?_
    have q11 := v_tel hWd q9 hj10
    refine lv_iload_n hx hb d_NT_isFirstOfItsKind_28 rfl (lv_at hl 2 rfl) ?_
    obtain ⟨q12, hq12, h⟩ := ob h
    refine kc_z (va_runV (As := [.int v2, .ref (gr M (gr M v0 1) j10), .int v2]) (rest := []) hX (m_TR_hasAmongFirst l  (gr M (gr M v0 1) j7) v2 (gr M (gr M v0 1) j10) v2 q8 q11 hq12) (cb_TR_hasAmongFirst hts t_263 ⟨Nat.le_of_ble_eq_true rfl, Nat.le_of_ble_eq_true rfl⟩) (pv_TR hWd q8) rfl rfl hl.1 rfl (lv_room (Nat.le_of_ble_eq_true rfl)) d_NT_isFirstOfItsKind_29 ⟨Nat.zero_le _, Nat.zero_le _⟩) hWd (fun z13 H locs hWd => ?_)
    refine lv_if_ne (tgt := 39) hx hb d_NT_isFirstOfItsKind_32 (by decide) (fun hc => ?_) (fun hc => ?_)
    · replace h := ifN h hc
      refine lv_iconst (v := 0) hx hb d_NT_isFirstOfItsKind_39 (by decide) ?_
      obtain rfl := Option.some.inj h
      exact e_zret hX hr hlk hWd (Or.inl rfl) d_NT_isFirstOfItsKind_40
    · replace h := ifP h hc
      refine lv_iconst (v := 1) hx hb d_NT_isFirstOfItsKind_35 (by decide) ?_
      refine lv_goto (tgt := 40) hx hb d_NT_isFirstOfItsKind_36 (by decide) ?_
      obtain rfl := Option.some.inj h
      exact e_zret hX hr hlk hWd (Or.inr rfl) d_NT_isFirstOfItsKind_40
set_option maxHeartbeats 4000000 in
set_option maxRecDepth 100000 in
theorem w_NT_stored_14 {p : Program} {l : Launch} {e : Env} {s : State} {m : MethodId} {args : Array Value} {below : List Frame} {meth : Method} {c : Code} {E : En} {K G : Nat → Nat} {L : List Nat} (hX : CallFix p m c b_NT_stored 4 s args w_NT_stored "NibbleTrie") (hr : meth.sig.returnType = (some .int)) (hlk : meth.locks = false) {out : Int32} (k4 : Nat → Int32 → Int32 → Mm → Option (Int32)) (hk4 : ∀ (v0 : Nat) (v1 : Int32) (v2 : Int32) (M : Mm) (H : Heap) (locs : List Loc) (ls : Array Slot), K v0 = 5 → lv_has ls 4 [(0, .ref v0), (1, .int v1), (2, .int v2)] → Wd E K G L M s.heap H locs s → k4 v0 v1 v2 M = some out → W p l e rm_NT_stored s m args below meth c H locs 0 0 (MQ below (QI E K G L s.heap.size out M) args s 0 0 (AL L s.heap.size)) (F0 m 4 ls [])) : ∀ (n : Nat) (v0 : Nat) (v1 : Int32) (v2 : Int32) (v3 : Int32) (M : Mm) (H : Heap) (locs : List Loc) (ls : Array Slot), K v0 = 5 → lv_has ls 4 [(0, .ref v0), (1, .int v1), (2, .int v2), (3, .int v3)] → Wd E K G L M s.heap H locs s → f_NT_stored_14 G k4 n v0 v1 v2 v3 M = some out → W p l e rm_NT_stored s m args below meth c H locs 0 0 (MQ below (QI E K G L s.heap.size out M) args s 0 0 (AL L s.heap.size)) (F0 m 14 ls []) := by
  have hx := hX.1
  have hb := hX.2.1
  have hown := hX.2.2.2.1
  have hts := hX.2.2.2.2
  intro n
  induction n with
  | zero => intro _ _ _ _ _ _ _ _ _ _ _ h; rw [f_NT_stored_14] at h; cases h
  | succ n ih =>
    intro v0 v1 v2 v3 M H locs ls hv0 hl hWd h
    rw [f_NT_stored_14] at h
    refine lv_iload_n hx hb d_NT_stored_14 rfl (lv_at hl 3 rfl) ?_
    refine lv_aload_n hx hb d_NT_stored_15 rfl (lv_at hl 0 rfl) ?_
    refine g_NT_kept hX t_124 hWd hv0 d_NT_stored_16 ?_
    have q1 := v_NT_kept hWd hv0
    refine lv_iload_n hx hb d_NT_stored_19 rfl (lv_at hl 2 rfl) ?_
    obtain ⟨j2, hj2, h⟩ := ob h
    refine r_tald hX hWd q1 hj2 d_NT_stored_20 ?_
    have q3 := v_tel hWd q1 hj2
    refine g_TR_branches hX t_53 hWd q3 d_NT_stored_21 ?_
    refine lv_icmp_ge (tgt := 45) hx hb d_NT_stored_24 (by decide) (fun hc => ?_) (fun hc => ?_)
    · replace h := ifP h hc
      refine lv_iinc (k := 2) (v := (v2 + 1)) (lv' := [(2, .int (v2 + 1)), (0, .ref v0), (1, .int v1), (3, .int v3)]) hx hb d_NT_stored_45 hl rfl (by rfl) (by decide) rfl (fun ls hl => ?_)
      refine lv_goto (tgt := 4) hx hb d_NT_stored_48 (by decide) ?_
      exact hk4 v0 v1 (v2 + 1) M _ _ _ hv0 (lv_sub hl [1, 2, 0] rfl) hWd h
    · replace h := ifN h hc
      refine lv_aload_n hx hb d_NT_stored_27 rfl (lv_at hl 0 rfl) ?_
      refine lv_iload_n hx hb d_NT_stored_28 rfl (lv_at hl 2 rfl) ?_
      refine lv_iload_n hx hb d_NT_stored_29 rfl (lv_at hl 3 rfl) ?_
      obtain ⟨q4, hq4, h⟩ := ob h
      refine kc_z (va_runV (As := [.int v2, .int v3]) (rest := []) hX (m_NT_isFirstOfItsKind l  v0 v2 v3 hv0 hq4) (cb_NT_isFirstOfItsKind hts t_319 ⟨Nat.le_of_ble_eq_true rfl, Nat.le_of_ble_eq_true rfl⟩) (pv_NT hWd hv0) rfl rfl hl.1 rfl (lv_room (Nat.le_of_ble_eq_true rfl)) d_NT_stored_30 ⟨Nat.zero_le _, Nat.zero_le _⟩) hWd (fun z5 H locs hWd => ?_)
      refine lv_if_eq (tgt := 39) hx hb d_NT_stored_33 (by decide) (fun hc => ?_) (fun hc => ?_)
      · replace h := ifP h hc
        refine lv_iinc (k := 3) (v := (v3 + 1)) (lv' := [(3, .int (v3 + 1)), (0, .ref v0), (1, .int v1), (2, .int v2)]) hx hb d_NT_stored_39 hl rfl (by rfl) (by decide) rfl (fun ls hl => ?_)
        refine lv_goto (tgt := 14) hx hb d_NT_stored_42 (by decide) ?_
        exact ih v0 v1 v2 (v3 + 1) M _ _ _ hv0 (lv_sub hl [1, 2, 3, 0] rfl) hWd h
      · replace h := ifN h hc
        refine lv_iinc (k := 1) (v := (v1 + 1)) (lv' := [(1, .int (v1 + 1)), (0, .ref v0), (2, .int v2), (3, .int v3)]) hx hb d_NT_stored_36 hl rfl (by rfl) (by decide) rfl (fun ls hl => ?_)
        refine lv_iinc (k := 3) (v := (v3 + 1)) (lv' := [(3, .int (v3 + 1)), (1, .int (v1 + 1)), (0, .ref v0), (2, .int v2)]) hx hb d_NT_stored_39 hl rfl (by rfl) (by decide) rfl (fun ls hl => ?_)
        refine lv_goto (tgt := 14) hx hb d_NT_stored_42 (by decide) ?_
        exact ih v0 (v1 + 1) v2 (v3 + 1) M _ _ _ hv0 (lv_sub hl [2, 1, 3, 0] rfl) hWd h
set_option maxHeartbeats 4000000 in
set_option maxRecDepth 100000 in
theorem w_NT_stored_4 {p : Program} {l : Launch} {e : Env} {s : State} {m : MethodId} {args : Array Value} {below : List Frame} {meth : Method} {c : Code} {E : En} {K G : Nat → Nat} {L : List Nat} (hX : CallFix p m c b_NT_stored 4 s args w_NT_stored "NibbleTrie") (hr : meth.sig.returnType = (some .int)) (hlk : meth.locks = false) {out : Int32} : ∀ (n : Nat) (v0 : Nat) (v1 : Int32) (v2 : Int32) (M : Mm) (H : Heap) (locs : List Loc) (ls : Array Slot), K v0 = 5 → lv_has ls 4 [(0, .ref v0), (1, .int v1), (2, .int v2)] → Wd E K G L M s.heap H locs s → f_NT_stored_4 G n v0 v1 v2 M = some out → W p l e rm_NT_stored s m args below meth c H locs 0 0 (MQ below (QI E K G L s.heap.size out M) args s 0 0 (AL L s.heap.size)) (F0 m 4 ls []) := by
  have hx := hX.1
  have hb := hX.2.1
  have hown := hX.2.2.2.1
  have hts := hX.2.2.2.2
  intro n
  induction n with
  | zero => intro _ _ _ _ _ _ _ _ _ _ h; rw [f_NT_stored_4] at h; cases h
  | succ n ih =>
    intro v0 v1 v2 M H locs ls hv0 hl hWd h
    rw [f_NT_stored_4] at h
    refine lv_iload_n hx hb d_NT_stored_4 rfl (lv_at hl 2 rfl) ?_
    refine lv_aload_n hx hb d_NT_stored_5 rfl (lv_at hl 0 rfl) ?_
    refine g_NT_keptNow hX t_125 hWd hv0 d_NT_stored_6 ?_
    refine lv_icmp_ge (tgt := 51) hx hb d_NT_stored_9 (by decide) (fun hc => ?_) (fun hc => ?_)
    · replace h := ifP h hc
      refine lv_iload_n hx hb d_NT_stored_51 rfl (lv_at hl 1 rfl) ?_
      obtain rfl := Option.some.inj h
      exact e_iret hX hr hlk hWd d_NT_stored_52
    · replace h := ifN h hc
      refine lv_iconst (v := 0) hx hb d_NT_stored_12 (by decide) ?_
      refine lv_istore_n (lv' := [(3, .int 0), (0, .ref v0), (1, .int v1), (2, .int v2)]) hx hb d_NT_stored_13 rfl hl (by decide) rfl (fun ls hl => ?_)
      exact w_NT_stored_14 hX hr hlk _ ih FU v0 v1 v2 0 M _ _ _ hv0 (lv_sub hl [1, 2, 3, 0] rfl) hWd h
set_option maxHeartbeats 4000000 in
set_option maxRecDepth 100000 in
theorem m_NT_stored (l : Launch) {E : En} {K G : Nat → Nat} {L : List Nat} {M : Mm} {sz : Nat} {out : Int32} (v0 : Nat) (hv0 : K v0 = 5) (h : f_NT_stored G v0 M = some out) : Met l y_NT_stored w_NT_stored rm_NT_stored (va_Pc [.ref v0] (Wp E K G L M sz)) (QI E K G L sz out M) 0 0 (AL L sz) := by
  refine Met.ofW (cc := b_NT_stored) (maxL := 4) (ret := (some .int)) (by decide) rfl ?_
  intro p e s m av below meth c s₁ B hml hv
  obtain ⟨rfl, hWp⟩ := hv
  have hWd := Wd.start hWp
  obtain ⟨rfl, -⟩ := hWp
  have hX : CallFix p m c b_NT_stored 4 s _ w_NT_stored "NibbleTrie" := ⟨B.exec, B.bytes, hml, findClass_of_methodNamed B.named, atoms_spec (ws := w_NT_stored) B.pre⟩
  have hx := hX.1
  have hb := hX.2.1
  have hown := hX.2.2.2.1
  have hts := hX.2.2.2.2
  have hr := B.returns
  have hlk := B.notSynchronized
  have hl := lv_entry ([.ref v0]) (n := 4) (Nat.le_of_ble_eq_true rfl)
  rw [lg_entry_eq]
  generalize (lg_sl ([.ref v0]) ++ List.replicate (4 - (lg_sl ([.ref v0])).length) Slot.unset).toArray = ls at hl ⊢
  have hl : lv_has ls 4 [(0, .ref v0)] := hl
  unfold f_NT_stored at h
  refine lv_iconst (v := 0) hx hb d_NT_stored_0 (by decide) ?_
  refine lv_istore_n (lv' := [(1, .int 0), (0, .ref v0)]) hx hb d_NT_stored_1 rfl hl (by decide) rfl (fun ls hl => ?_)
  refine lv_iconst (v := 0) hx hb d_NT_stored_2 (by decide) ?_
  refine lv_istore_n (lv' := [(2, .int 0), (1, .int 0), (0, .ref v0)]) hx hb d_NT_stored_3 rfl hl (by decide) rfl (fun ls hl => ?_)
  exact w_NT_stored_4 hX hr hlk FU v0 0 0 M _ _ _ hv0 (lv_sub hl [2, 1, 0] rfl) hWd h
set_option maxHeartbeats 4000000 in
set_option maxRecDepth 100000 in
theorem m_NT_isUse (l : Launch) {E : En} {K G : Nat → Nat} {L : List Nat} {M : Mm} {sz : Nat} {out : Int32} (v0 : Nat) (v1 : Int32) (v2 : Int32) (hv0 : K v0 = 5) (h : f_NT_isUse G v0 v1 v2 M = some out) : Met l y_NT_isUse w_NT_isUse rm_NT_isUse (va_Pc [.ref v0, .int v1, .int v2] (Wp E K G L M sz)) (QZ E K G L sz out M) 0 0 (AL L sz) := by
  refine Met.ofW (cc := b_NT_isUse) (maxL := 4) (ret := (some .boolean)) (by decide) rfl ?_
  intro p e s m av below meth c s₁ B hml hv
  obtain ⟨rfl, hWp⟩ := hv
  have hWd := Wd.start hWp
  obtain ⟨rfl, -⟩ := hWp
  have hX : CallFix p m c b_NT_isUse 4 s _ w_NT_isUse "NibbleTrie" := ⟨B.exec, B.bytes, hml, findClass_of_methodNamed B.named, atoms_spec (ws := w_NT_isUse) B.pre⟩
  have hx := hX.1
  have hb := hX.2.1
  have hown := hX.2.2.2.1
  have hts := hX.2.2.2.2
  have hr := B.returns
  have hlk := B.notSynchronized
  have hl := lv_entry ([.ref v0, .int v1, .int v2]) (n := 4) (Nat.le_of_ble_eq_true rfl)
  rw [lg_entry_eq]
  generalize (lg_sl ([.ref v0, .int v1, .int v2]) ++ List.replicate (4 - (lg_sl ([.ref v0, .int v1, .int v2])).length) Slot.unset).toArray = ls at hl ⊢
  have hl : lv_has ls 4 [(0, .ref v0), (1, .int v1), (2, .int v2)] := hl
  unfold f_NT_isUse at h
  refine lv_aload_n hx hb d_NT_isUse_0 rfl (lv_at hl 0 rfl) ?_
  refine g_NT_kept hX t_124 hWd hv0 d_NT_isUse_1 ?_
  have q1 := v_NT_kept hWd hv0
  refine lv_iload_n hx hb d_NT_isUse_4 rfl (lv_at hl 1 rfl) ?_
  obtain ⟨j2, hj2, h⟩ := ob h
  refine r_tald hX hWd q1 hj2 d_NT_isUse_5 ?_
  have q3 := v_tel hWd q1 hj2
  refine g_TR_parent hX t_55 hWd q3 d_NT_isUse_6 ?_
  have q4 := v_TR_parent hWd q3
  refine lv_iload_n hx hb d_NT_isUse_9 rfl (lv_at hl 2 rfl) ?_
  obtain ⟨j5, hj5, h⟩ := ob h
  refine r_iald hX hWd q4 hj5 d_NT_isUse_10 ?_
  refine lv_topi (fun x6 ex6 => ?_)
  replace h := stA h ex6
  refine lv_istore_n (lv' := [(3, .int x6), (0, .ref v0), (1, .int v1), (2, .int v2)]) hx hb d_NT_isUse_11 rfl hl (by decide) rfl (fun ls hl => ?_)
  refine lv_iload_n hx hb d_NT_isUse_12 rfl (lv_at hl 0 rfl) ?_
  refine lv_iconst (v := (-1)) hx hb d_NT_isUse_13 (by decide) ?_
  refine lv_icmp_eq (tgt := 26) hx hb d_NT_isUse_14 (by decide) (fun hc => ?_) (fun hc => ?_)
  · replace h := ifP h hc
    refine lv_iconst (v := 1) hx hb d_NT_isUse_26 (by decide) ?_
    refine lv_goto (tgt := 31) hx hb d_NT_isUse_27 (by decide) ?_
    obtain rfl := Option.some.inj h
    exact e_zret hX hr hlk hWd (Or.inr rfl) d_NT_isUse_31
  · replace h := ifN h hc
    refine lv_aload_n hx hb d_NT_isUse_17 rfl (lv_at hl 1 rfl) ?_
    refine lv_iload_n hx hb d_NT_isUse_18 rfl (lv_at hl 2 rfl) ?_
    refine lv_iload_n hx hb d_NT_isUse_19 rfl (lv_at hl 0 rfl) ?_
    obtain ⟨q7, hq7, h⟩ := ob h
    refine kc_z (va_runV (As := [.int v1, .int x6]) (rest := []) hX (m_NT_isFirstOfItsKind l  v0 v1 x6 hv0 hq7) (cb_NT_isFirstOfItsKind hts t_319 ⟨Nat.le_of_ble_eq_true rfl, Nat.le_of_ble_eq_true rfl⟩) (pv_NT hWd hv0) rfl rfl hl.1 rfl (lv_room (Nat.le_of_ble_eq_true rfl)) d_NT_isUse_20 ⟨Nat.zero_le _, Nat.zero_le _⟩) hWd (fun z8 H locs hWd => ?_)
    refine lv_if_eq (tgt := 30) hx hb d_NT_isUse_23 (by decide) (fun hc => ?_) (fun hc => ?_)
    · replace h := ifP h hc
      refine lv_iconst (v := 0) hx hb d_NT_isUse_30 (by decide) ?_
      obtain rfl := Option.some.inj h
      exact e_zret hX hr hlk hWd (Or.inl rfl) d_NT_isUse_31
    · replace h := ifN h hc
      refine lv_iconst (v := 1) hx hb d_NT_isUse_26 (by decide) ?_
      refine lv_goto (tgt := 31) hx hb d_NT_isUse_27 (by decide) ?_
      obtain rfl := Option.some.inj h
      exact e_zret hX hr hlk hWd (Or.inr rfl) d_NT_isUse_31
set_option maxHeartbeats 4000000 in
set_option maxRecDepth 100000 in
theorem w_NT_uses_17 {p : Program} {l : Launch} {e : Env} {s : State} {m : MethodId} {args : Array Value} {below : List Frame} {meth : Method} {c : Code} {E : En} {K G : Nat → Nat} {L : List Nat} (hX : CallFix p m c b_NT_uses 6 s args w_NT_uses "NibbleTrie") (hr : meth.sig.returnType = (some .int)) (hlk : meth.locks = false) {out : Int32 × Mm} (k5 : Nat → Int64 → Int32 → Int32 → Mm → Option (Int32 × Mm)) (hk5 : ∀ (v0 : Nat) (v1 : Int64) (v3 : Int32) (v4 : Int32) (M : Mm) (H : Heap) (locs : List Loc) (ls : Array Slot), K v0 = 5 → lv_has ls 6 [(0, .ref v0), (1, .long v1), (3, .int v3), (4, .int v4)] → Wd E K G L M s.heap H locs s → k5 v0 v1 v3 v4 M = some out → W p l e rm_NT_uses s m args below meth c H locs 0 0 (MQ below (QI E K G L s.heap.size out.1 out.2) args s 0 0 (AL L s.heap.size)) (F0 m 5 ls [])) : ∀ (n : Nat) (v0 : Nat) (v1 : Int64) (v3 : Int32) (v4 : Int32) (v5 : Int32) (M : Mm) (H : Heap) (locs : List Loc) (ls : Array Slot), K v0 = 5 → lv_has ls 6 [(0, .ref v0), (1, .long v1), (3, .int v3), (4, .int v4), (5, .int v5)] → Wd E K G L M s.heap H locs s → f_NT_uses_17 G k5 n v0 v1 v3 v4 v5 M = some out → W p l e rm_NT_uses s m args below meth c H locs 0 0 (MQ below (QI E K G L s.heap.size out.1 out.2) args s 0 0 (AL L s.heap.size)) (F0 m 17 ls []) := by
  have hx := hX.1
  have hb := hX.2.1
  have hown := hX.2.2.2.1
  have hts := hX.2.2.2.2
  intro n
  induction n with
  | zero => intro _ _ _ _ _ _ _ _ _ _ _ _ h; rw [f_NT_uses_17] at h; cases h
  | succ n ih =>
    intro v0 v1 v3 v4 v5 M H locs ls hv0 hl hWd h
    rw [f_NT_uses_17] at h
    refine lv_iload hx hb d_NT_uses_17 (lv_at hl 4 rfl) ?_
    refine lv_aload_n hx hb d_NT_uses_19 rfl (lv_at hl 0 rfl) ?_
    refine g_NT_kept hX t_124 hWd hv0 d_NT_uses_20 ?_
    have q1 := v_NT_kept hWd hv0
    refine lv_iload hx hb d_NT_uses_23 (lv_at hl 3 rfl) ?_
    obtain ⟨j2, hj2, h⟩ := ob h
    refine r_tald hX hWd q1 hj2 d_NT_uses_25 ?_
    have q3 := v_tel hWd q1 hj2
    refine g_TR_branches hX t_53 hWd q3 d_NT_uses_26 ?_
    refine lv_icmp_ge (tgt := 69) hx hb d_NT_uses_29 (by decide) (fun hc => ?_) (fun hc => ?_)
    · replace h := ifP h hc
      refine lv_iinc (k := 3) (v := (v4 + 1)) (lv' := [(4, .int (v4 + 1)), (0, .ref v0), (1, .long v1), (3, .int v3), (5, .int v5)]) hx hb d_NT_uses_69 hl rfl (by rfl) (by decide) rfl (fun ls hl => ?_)
      refine lv_goto (tgt := 5) hx hb d_NT_uses_72 (by decide) ?_
      exact hk5 v0 v1 v3 (v4 + 1) M _ _ _ hv0 (lv_sub hl [1, 2, 3, 0] rfl) hWd h
    · replace h := ifN h hc
      refine lv_aload_n hx hb d_NT_uses_32 rfl (lv_at hl 0 rfl) ?_
      refine lv_iload hx hb d_NT_uses_33 (lv_at hl 3 rfl) ?_
      refine lv_iload hx hb d_NT_uses_35 (lv_at hl 4 rfl) ?_
      obtain ⟨q4, hq4, h⟩ := ob h
      refine kc_z (va_runV (As := [.int v4, .int v5]) (rest := []) hX (m_NT_isUse l  v0 v4 v5 hv0 hq4) (cb_NT_isUse hts t_327 ⟨Nat.le_of_ble_eq_true rfl, Nat.le_of_ble_eq_true rfl⟩) (pv_NT hWd hv0) rfl rfl hl.1 rfl (lv_room (Nat.le_of_ble_eq_true rfl)) d_NT_uses_37 ⟨Nat.zero_le _, Nat.zero_le _⟩) hWd (fun z5 H locs hWd => ?_)
      refine lv_if_eq (tgt := 63) hx hb d_NT_uses_40 (by decide) (fun hc => ?_) (fun hc => ?_)
      · replace h := ifP h hc
        refine lv_iinc (k := 4) (v := (v5 + 1)) (lv' := [(5, .int (v5 + 1)), (0, .ref v0), (1, .long v1), (3, .int v3), (4, .int v4)]) hx hb d_NT_uses_63 hl rfl (by rfl) (by decide) rfl (fun ls hl => ?_)
        refine lv_goto (tgt := 17) hx hb d_NT_uses_66 (by decide) ?_
        exact ih v0 v1 v3 v4 (v5 + 1) M _ _ _ hv0 (lv_sub hl [1, 2, 3, 4, 0] rfl) hWd h
      · replace h := ifN h hc
        refine lv_aload_n hx hb d_NT_uses_43 rfl (lv_at hl 0 rfl) ?_
        refine g_NT_kept hX t_124 hWd hv0 d_NT_uses_44 ?_
        have q6 := v_NT_kept hWd hv0
        refine lv_iload hx hb d_NT_uses_47 (lv_at hl 3 rfl) ?_
        obtain ⟨j7, hj7, h⟩ := ob h
        refine r_tald hX hWd q6 hj7 d_NT_uses_49 ?_
        have q8 := v_tel hWd q6 hj7
        refine lv_iload hx hb d_NT_uses_50 (lv_at hl 4 rfl) ?_
        obtain ⟨q9, hq9, h⟩ := ob h
        refine kc_l (va_runV (As := [.int v5]) (rest := []) hX (m_TR_digestOf l  (gr M (gr M v0 1) j7) v5 q8 hq9) (cb_TR_digestOf hts t_331 ⟨Nat.le_of_ble_eq_true rfl, Nat.le_of_ble_eq_true rfl⟩) (pv_TR hWd q8) rfl rfl hl.1 rfl (lv_room (Nat.le_of_ble_eq_true rfl)) d_NT_uses_52 ⟨Nat.zero_le _, Nat.zero_le _⟩) hWd (fun H locs hWd => ?_)
        refine lv_lload_n hx hb d_NT_uses_55 rfl (lv_at hl 1 rfl) ?_
        refine W.lcmp hx hb d_NT_uses_56 ?_
        refine lv_if_ne (tgt := 63) hx hb d_NT_uses_57 (by decide) (fun hc => ?_) (fun hc => ?_)
        · replace h := ifN h hc
          refine lv_iinc (k := 4) (v := (v5 + 1)) (lv' := [(5, .int (v5 + 1)), (0, .ref v0), (1, .long v1), (3, .int v3), (4, .int v4)]) hx hb d_NT_uses_63 hl rfl (by rfl) (by decide) rfl (fun ls hl => ?_)
          refine lv_goto (tgt := 17) hx hb d_NT_uses_66 (by decide) ?_
          exact ih v0 v1 v3 v4 (v5 + 1) q9.2 _ _ _ hv0 (lv_sub hl [1, 2, 3, 4, 0] rfl) hWd h
        · replace h := ifP h hc
          refine lv_iinc (k := 2) (v := (v3 + 1)) (lv' := [(3, .int (v3 + 1)), (0, .ref v0), (1, .long v1), (4, .int v4), (5, .int v5)]) hx hb d_NT_uses_60 hl rfl (by rfl) (by decide) rfl (fun ls hl => ?_)
          refine lv_iinc (k := 4) (v := (v5 + 1)) (lv' := [(5, .int (v5 + 1)), (3, .int (v3 + 1)), (0, .ref v0), (1, .long v1), (4, .int v4)]) hx hb d_NT_uses_63 hl rfl (by rfl) (by decide) rfl (fun ls hl => ?_)
          refine lv_goto (tgt := 17) hx hb d_NT_uses_66 (by decide) ?_
          exact ih v0 v1 (v3 + 1) v4 (v5 + 1) q9.2 _ _ _ hv0 (lv_sub hl [2, 3, 1, 4, 0] rfl) hWd h
set_option maxHeartbeats 4000000 in
set_option maxRecDepth 100000 in
theorem w_NT_uses_5 {p : Program} {l : Launch} {e : Env} {s : State} {m : MethodId} {args : Array Value} {below : List Frame} {meth : Method} {c : Code} {E : En} {K G : Nat → Nat} {L : List Nat} (hX : CallFix p m c b_NT_uses 6 s args w_NT_uses "NibbleTrie") (hr : meth.sig.returnType = (some .int)) (hlk : meth.locks = false) {out : Int32 × Mm} : ∀ (n : Nat) (v0 : Nat) (v1 : Int64) (v3 : Int32) (v4 : Int32) (M : Mm) (H : Heap) (locs : List Loc) (ls : Array Slot), K v0 = 5 → lv_has ls 6 [(0, .ref v0), (1, .long v1), (3, .int v3), (4, .int v4)] → Wd E K G L M s.heap H locs s → f_NT_uses_5 G n v0 v1 v3 v4 M = some out → W p l e rm_NT_uses s m args below meth c H locs 0 0 (MQ below (QI E K G L s.heap.size out.1 out.2) args s 0 0 (AL L s.heap.size)) (F0 m 5 ls []) := by
  have hx := hX.1
  have hb := hX.2.1
  have hown := hX.2.2.2.1
  have hts := hX.2.2.2.2
  intro n
  induction n with
  | zero => intro _ _ _ _ _ _ _ _ _ _ _ h; rw [f_NT_uses_5] at h; cases h
  | succ n ih =>
    intro v0 v1 v3 v4 M H locs ls hv0 hl hWd h
    rw [f_NT_uses_5] at h
    refine lv_iload hx hb d_NT_uses_5 (lv_at hl 3 rfl) ?_
    refine lv_aload_n hx hb d_NT_uses_7 rfl (lv_at hl 0 rfl) ?_
    refine g_NT_keptNow hX t_125 hWd hv0 d_NT_uses_8 ?_
    refine lv_icmp_ge (tgt := 75) hx hb d_NT_uses_11 (by decide) (fun hc => ?_) (fun hc => ?_)
    · replace h := ifP h hc
      refine lv_iload_n hx hb d_NT_uses_75 rfl (lv_at hl 2 rfl) ?_
      obtain rfl := Option.some.inj h
      exact e_iret hX hr hlk hWd d_NT_uses_76
    · replace h := ifN h hc
      refine lv_iconst (v := 0) hx hb d_NT_uses_14 (by decide) ?_
      refine lv_istore (lv' := [(5, .int 0), (0, .ref v0), (1, .long v1), (3, .int v3), (4, .int v4)]) hx hb d_NT_uses_15 hl (by decide) rfl (fun ls hl => ?_)
      exact w_NT_uses_17 hX hr hlk _ ih FU v0 v1 v3 v4 0 M _ _ _ hv0 (lv_sub hl [1, 2, 3, 4, 0] rfl) hWd h
set_option maxHeartbeats 4000000 in
set_option maxRecDepth 100000 in
theorem m_NT_uses (l : Launch) {E : En} {K G : Nat → Nat} {L : List Nat} {M : Mm} {sz : Nat} {out : Int32 × Mm} (v0 : Nat) (v1 : Int64) (hv0 : K v0 = 5) (h : f_NT_uses G v0 v1 M = some out) : Met l y_NT_uses w_NT_uses rm_NT_uses (va_Pc [.ref v0, .long v1] (Wp E K G L M sz)) (QI E K G L sz out.1 out.2) 0 0 (AL L sz) := by
  refine Met.ofW (cc := b_NT_uses) (maxL := 6) (ret := (some .int)) (by decide) rfl ?_
  intro p e s m av below meth c s₁ B hml hv
  obtain ⟨rfl, hWp⟩ := hv
  have hWd := Wd.start hWp
  obtain ⟨rfl, -⟩ := hWp
  have hX : CallFix p m c b_NT_uses 6 s _ w_NT_uses "NibbleTrie" := ⟨B.exec, B.bytes, hml, findClass_of_methodNamed B.named, atoms_spec (ws := w_NT_uses) B.pre⟩
  have hx := hX.1
  have hb := hX.2.1
  have hown := hX.2.2.2.1
  have hts := hX.2.2.2.2
  have hr := B.returns
  have hlk := B.notSynchronized
  have hl := lv_entry ([.ref v0, .long v1]) (n := 6) (Nat.le_of_ble_eq_true rfl)
  rw [lg_entry_eq]
  generalize (lg_sl ([.ref v0, .long v1]) ++ List.replicate (6 - (lg_sl ([.ref v0, .long v1])).length) Slot.unset).toArray = ls at hl ⊢
  have hl : lv_has ls 6 [(0, .ref v0), (1, .long v1)] := hl
  unfold f_NT_uses at h
  refine lv_iconst (v := 0) hx hb d_NT_uses_0 (by decide) ?_
  refine lv_istore_n (lv' := [(3, .int 0), (0, .ref v0), (1, .long v1)]) hx hb d_NT_uses_1 rfl hl (by decide) rfl (fun ls hl => ?_)
  refine lv_iconst (v := 0) hx hb d_NT_uses_2 (by decide) ?_
  refine lv_istore (lv' := [(4, .int 0), (3, .int 0), (0, .ref v0), (1, .long v1)]) hx hb d_NT_uses_3 hl (by decide) rfl (fun ls hl => ?_)
  exact w_NT_uses_5 hX hr hlk FU v0 v1 0 0 M _ _ _ hv0 (lv_sub hl [2, 3, 1, 0] rfl) hWd h
set_option maxHeartbeats 4000000 in
set_option maxRecDepth 100000 in
theorem m_NT_prove (l : Launch) {E : En} {K G : Nat → Nat} {L : List Nat} {M : Mm} {sz : Nat} {out : Int32 × Mm} (v0 : Nat) (v1 : Int32) (v2 : Int32) (hv0 : K v0 = 5) (h : f_NT_prove G v0 v1 v2 M = some out) : Met l y_NT_prove w_NT_prove rm_NT_prove (va_Pc [.ref v0, .int v1, .int v2] (Wp E K G L M sz)) (QI E K G L sz out.1 out.2) 0 0 (AL L sz) := by
  refine Met.ofW (cc := b_NT_prove) (maxL := 3) (ret := (some .int)) (by decide) rfl ?_
  intro p e s m av below meth c s₁ B hml hv
  obtain ⟨rfl, hWp⟩ := hv
  have hWd := Wd.start hWp
  obtain ⟨rfl, -⟩ := hWp
  have hX : CallFix p m c b_NT_prove 3 s _ w_NT_prove "NibbleTrie" := ⟨B.exec, B.bytes, hml, findClass_of_methodNamed B.named, atoms_spec (ws := w_NT_prove) B.pre⟩
  have hx := hX.1
  have hb := hX.2.1
  have hown := hX.2.2.2.1
  have hts := hX.2.2.2.2
  have hr := B.returns
  have hlk := B.notSynchronized
  have hl := lv_entry ([.ref v0, .int v1, .int v2]) (n := 3) (Nat.le_of_ble_eq_true rfl)
  rw [lg_entry_eq]
  generalize (lg_sl ([.ref v0, .int v1, .int v2]) ++ List.replicate (3 - (lg_sl ([.ref v0, .int v1, .int v2])).length) Slot.unset).toArray = ls at hl ⊢
  have hl : lv_has ls 3 [(0, .ref v0), (1, .int v1), (2, .int v2)] := hl
  unfold f_NT_prove at h
  refine lv_aload_n hx hb d_NT_prove_0 rfl (lv_at hl 0 rfl) ?_
  refine lv_iload_n hx hb d_NT_prove_1 rfl (lv_at hl 1 rfl) ?_
  refine kc_z (va_runV (As := [.int v1]) (rest := []) hX (m_NT_isKept l  v0 v1 hv0 rfl) (cb_NT_isKept hts t_307 ⟨Nat.le_of_ble_eq_true rfl, Nat.le_of_ble_eq_true rfl⟩) (pv_NT hWd hv0) rfl rfl hl.1 rfl (lv_room (Nat.le_of_ble_eq_true rfl)) d_NT_prove_2 ⟨Nat.zero_le _, Nat.zero_le _⟩) hWd (fun z1 H locs hWd => ?_)
  refine lv_if_eq (tgt := 16) hx hb d_NT_prove_5 (by decide) (fun hc => ?_) (fun hc => ?_)
  · replace h := ifP h hc
    refine lv_iconst (v := (-1)) hx hb d_NT_prove_16 (by decide) ?_
    obtain rfl := Option.some.inj h
    exact e_iret hX hr hlk hWd d_NT_prove_17
  · replace h := ifN h hc
    refine lv_iload_n hx hb d_NT_prove_8 rfl (lv_at hl 2 rfl) ?_
    refine lv_i2l hx hb d_NT_prove_9 rfl ?_
    refine kp_z (va_runS (As := [.long (v2.toInt64)]) (rest := []) hX (m_PA_isNumber l  (v2.toInt64) rfl) (cb_PA_isNumber hts t_140 ⟨Nat.le_of_ble_eq_true rfl, Nat.le_of_ble_eq_true rfl⟩) preEq rfl rfl hl.1 rfl (lv_room (Nat.le_of_ble_eq_true rfl)) d_NT_prove_10 ⟨Nat.zero_le _, Nat.zero_le _⟩) (fun z2 => ?_)
    refine lv_if_ne (tgt := 18) hx hb d_NT_prove_13 (by decide) (fun hc => ?_) (fun hc => ?_)
    · replace h := ifN h hc
      refine lv_aload_n hx hb d_NT_prove_18 rfl (lv_at hl 0 rfl) ?_
      refine g_NT_proof hX t_126 hWd hv0 d_NT_prove_19 ?_
      have q3 := v_NT_proof hWd hv0
      refine lv_aload_n hx hb d_NT_prove_22 rfl (lv_at hl 0 rfl) ?_
      refine g_NT_kept hX t_124 hWd hv0 d_NT_prove_23 ?_
      have q4 := v_NT_kept hWd hv0
      refine lv_iload_n hx hb d_NT_prove_26 rfl (lv_at hl 1 rfl) ?_
      obtain ⟨j5, hj5, h⟩ := ob h
      refine r_tald hX hWd q4 hj5 d_NT_prove_27 ?_
      have q6 := v_tel hWd q4 hj5
      refine lv_iload_n hx hb d_NT_prove_28 rfl (lv_at hl 2 rfl) ?_
      refine lv_aload_n hx hb d_NT_prove_29 rfl (lv_at hl 0 rfl) ?_
      refine g_NT_proof hX t_126 hWd hv0 d_NT_prove_30 ?_
      have q7 := v_NT_proof hWd hv0
      refine g_PF_words hX t_90 hWd q7 d_NT_prove_33 ?_
      have q8 := v_PF_words hWd q7
      obtain ⟨q9, hq9, h⟩ := ob h
      refine kc_i (va_runV (As := [.int v2, .ref (gr M (gr M v0 3) 0)]) (rest := [.ref (gr M v0 3)]) hX (m_TR_writeProof l  (gr M (gr M v0 1) j5) v2 (gr M (gr M v0 3) 0) q6 q8 hq9) (cb_TR_writeProof hts t_339 ⟨Nat.le_of_ble_eq_true rfl, Nat.le_of_ble_eq_true rfl⟩) (pv_TR hWd q6) rfl rfl hl.1 rfl (lv_room (Nat.le_of_ble_eq_true rfl)) d_NT_prove_36 ⟨Nat.zero_le _, Nat.zero_le _⟩) hWd (fun H locs hWd => ?_)
      refine p_PF_length hX t_92 hWd q3 d_NT_prove_39 (fun H locs hWd => ?_)
      obtain ⟨M10, eM10, h⟩ := stE h
      rw [← eM10] at hWd
      refine lv_aload_n hx hb d_NT_prove_42 rfl (lv_at hl 0 rfl) ?_
      refine g_NT_proof hX t_126 hWd hv0 d_NT_prove_43 ?_
      have q11 := v_NT_proof hWd hv0
      refine g_PF_length hX t_92 hWd q11 d_NT_prove_46 ?_
      obtain rfl := Option.some.inj h
      exact e_iret hX hr hlk hWd d_NT_prove_49
    · replace h := ifP h hc
      refine lv_iconst (v := (-1)) hx hb d_NT_prove_16 (by decide) ?_
      obtain rfl := Option.some.inj h
      exact e_iret hX hr hlk hWd d_NT_prove_17
set_option maxHeartbeats 4000000 in
set_option maxRecDepth 100000 in
theorem m_NT_word (l : Launch) {E : En} {K G : Nat → Nat} {L : List Nat} {M : Mm} {sz : Nat} {out : Int64} (v0 : Nat) (v1 : Int32) (hv0 : K v0 = 5) (h : f_NT_word G v0 v1 M = some out) : Met l y_NT_word w_NT_word rm_NT_word (va_Pc [.ref v0, .int v1] (Wp E K G L M sz)) (QL E K G L sz out M) 0 0 (AL L sz) := by
  refine Met.ofW (cc := b_NT_word) (maxL := 2) (ret := (some .long)) (by decide) rfl ?_
  intro p e s m av below meth c s₁ B hml hv
  obtain ⟨rfl, hWp⟩ := hv
  have hWd := Wd.start hWp
  obtain ⟨rfl, -⟩ := hWp
  have hX : CallFix p m c b_NT_word 2 s _ w_NT_word "NibbleTrie" := ⟨B.exec, B.bytes, hml, findClass_of_methodNamed B.named, atoms_spec (ws := w_NT_word) B.pre⟩
  have hx := hX.1
  have hb := hX.2.1
  have hown := hX.2.2.2.1
  have hts := hX.2.2.2.2
  have hr := B.returns
  have hlk := B.notSynchronized
  have hl := lv_entry ([.ref v0, .int v1]) (n := 2) (Nat.le_of_ble_eq_true rfl)
  rw [lg_entry_eq]
  generalize (lg_sl ([.ref v0, .int v1]) ++ List.replicate (2 - (lg_sl ([.ref v0, .int v1])).length) Slot.unset).toArray = ls at hl ⊢
  have hl : lv_has ls 2 [(0, .ref v0), (1, .int v1)] := hl
  unfold f_NT_word at h
  refine lv_aload_n hx hb d_NT_word_0 rfl (lv_at hl 0 rfl) ?_
  refine g_NT_proof hX t_126 hWd hv0 d_NT_word_1 ?_
  have q1 := v_NT_proof hWd hv0
  refine lv_iload_n hx hb d_NT_word_4 rfl (lv_at hl 1 rfl) ?_
  refine kc_z (va_runV (As := [.int v1]) (rest := []) hX (m_PF_has l  (gr M v0 3) v1 q1 rfl) (cb_PF_has hts t_355 ⟨Nat.le_of_ble_eq_true rfl, Nat.le_of_ble_eq_true rfl⟩) (pv_PF hWd q1) rfl rfl hl.1 rfl (lv_room (Nat.le_of_ble_eq_true rfl)) d_NT_word_5 ⟨Nat.zero_le _, Nat.zero_le _⟩) hWd (fun z2 H locs hWd => ?_)
  refine lv_if_eq (tgt := 23) hx hb d_NT_word_8 (by decide) (fun hc => ?_) (fun hc => ?_)
  · replace h := ifP h hc
    refine lv_lconst (v := 0) hx hb d_NT_word_23 (by decide) ?_
    obtain rfl := Option.some.inj h
    exact e_lret hX hr hlk hWd d_NT_word_24
  · replace h := ifN h hc
    refine lv_aload_n hx hb d_NT_word_11 rfl (lv_at hl 0 rfl) ?_
    refine g_NT_proof hX t_126 hWd hv0 d_NT_word_12 ?_
    have q3 := v_NT_proof hWd hv0
    refine g_PF_words hX t_90 hWd q3 d_NT_word_15 ?_
    have q4 := v_PF_words hWd q3
    refine lv_iload_n hx hb d_NT_word_18 rfl (lv_at hl 1 rfl) ?_
    obtain ⟨j5, hj5, h⟩ := ob h
    refine r_lald hX hWd q4 hj5 d_NT_word_19 ?_
    refine lv_goto (tgt := 24) hx hb d_NT_word_20 (by decide) ?_
    obtain rfl := Option.some.inj h
    exact e_lret hX hr hlk hWd d_NT_word_24
set_option maxHeartbeats 4000000 in
set_option maxRecDepth 100000 in
theorem m_NT_alter (l : Launch) {E : En} {K G : Nat → Nat} {L : List Nat} {M : Mm} {sz : Nat} {out : Int32 × Mm} (v0 : Nat) (v1 : Int32) (v2 : Int64) (hv0 : K v0 = 5) (h : f_NT_alter G v0 v1 v2 M = some out) : Met l y_NT_alter w_NT_alter rm_NT_alter (va_Pc [.ref v0, .int v1, .long v2] (Wp E K G L M sz)) (QZ E K G L sz out.1 out.2) 0 0 (AL L sz) := by
  refine Met.ofW (cc := b_NT_alter) (maxL := 4) (ret := (some .boolean)) (by decide) rfl ?_
  intro p e s m av below meth c s₁ B hml hv
  obtain ⟨rfl, hWp⟩ := hv
  have hWd := Wd.start hWp
  obtain ⟨rfl, -⟩ := hWp
  have hX : CallFix p m c b_NT_alter 4 s _ w_NT_alter "NibbleTrie" := ⟨B.exec, B.bytes, hml, findClass_of_methodNamed B.named, atoms_spec (ws := w_NT_alter) B.pre⟩
  have hx := hX.1
  have hb := hX.2.1
  have hown := hX.2.2.2.1
  have hts := hX.2.2.2.2
  have hr := B.returns
  have hlk := B.notSynchronized
  have hl := lv_entry ([.ref v0, .int v1, .long v2]) (n := 4) (Nat.le_of_ble_eq_true rfl)
  rw [lg_entry_eq]
  generalize (lg_sl ([.ref v0, .int v1, .long v2]) ++ List.replicate (4 - (lg_sl ([.ref v0, .int v1, .long v2])).length) Slot.unset).toArray = ls at hl ⊢
  have hl : lv_has ls 4 [(0, .ref v0), (1, .int v1), (2, .long v2)] := hl
  unfold f_NT_alter at h
  refine lv_aload_n hx hb d_NT_alter_0 rfl (lv_at hl 0 rfl) ?_
  refine g_NT_proof hX t_126 hWd hv0 d_NT_alter_1 ?_
  have q1 := v_NT_proof hWd hv0
  refine lv_iload_n hx hb d_NT_alter_4 rfl (lv_at hl 1 rfl) ?_
  refine kc_z (va_runV (As := [.int v1]) (rest := []) hX (m_PF_has l  (gr M v0 3) v1 q1 rfl) (cb_PF_has hts t_355 ⟨Nat.le_of_ble_eq_true rfl, Nat.le_of_ble_eq_true rfl⟩) (pv_PF hWd q1) rfl rfl hl.1 rfl (lv_room (Nat.le_of_ble_eq_true rfl)) d_NT_alter_5 ⟨Nat.zero_le _, Nat.zero_le _⟩) hWd (fun z2 H locs hWd => ?_)
  refine lv_if_ne (tgt := 13) hx hb d_NT_alter_8 (by decide) (fun hc => ?_) (fun hc => ?_)
  · replace h := ifN h hc
    refine lv_aload_n hx hb d_NT_alter_13 rfl (lv_at hl 0 rfl) ?_
    refine g_NT_proof hX t_126 hWd hv0 d_NT_alter_14 ?_
    have q3 := v_NT_proof hWd hv0
    refine g_PF_words hX t_90 hWd q3 d_NT_alter_17 ?_
    have q4 := v_PF_words hWd q3
    refine lv_iload_n hx hb d_NT_alter_20 rfl (lv_at hl 1 rfl) ?_
    refine lv_lload_n hx hb d_NT_alter_21 rfl (lv_at hl 2 rfl) ?_
    obtain ⟨j5, hj5, h⟩ := ob h
    refine r_last hX hWd q4 hj5 d_NT_alter_22 (fun H locs hWd => ?_)
    obtain ⟨M6, eM6, h⟩ := stE h
    rw [← eM6] at hWd
    refine lv_iconst (v := 1) hx hb d_NT_alter_23 (by decide) ?_
    obtain rfl := Option.some.inj h
    exact e_zret hX hr hlk hWd (Or.inr rfl) d_NT_alter_24
  · replace h := ifP h hc
    refine lv_iconst (v := 0) hx hb d_NT_alter_11 (by decide) ?_
    obtain rfl := Option.some.inj h
    exact e_zret hX hr hlk hWd (Or.inl rfl) d_NT_alter_12
set_option maxHeartbeats 4000000 in
set_option maxRecDepth 100000 in
theorem m_NT_cut (l : Launch) {E : En} {K G : Nat → Nat} {L : List Nat} {M : Mm} {sz : Nat} {out : Int32 × Mm} (v0 : Nat) (hv0 : K v0 = 5) (h : f_NT_cut G v0 M = out) : Met l y_NT_cut w_NT_cut rm_NT_cut (va_Pc [.ref v0] (Wp E K G L M sz)) (QI E K G L sz out.1 out.2) 0 0 (AL L sz) := by
  refine Met.ofW (cc := b_NT_cut) (maxL := 1) (ret := (some .int)) (by decide) rfl ?_
  intro p e s m av below meth c s₁ B hml hv
  obtain ⟨rfl, hWp⟩ := hv
  have hWd := Wd.start hWp
  obtain ⟨rfl, -⟩ := hWp
  have hX : CallFix p m c b_NT_cut 1 s _ w_NT_cut "NibbleTrie" := ⟨B.exec, B.bytes, hml, findClass_of_methodNamed B.named, atoms_spec (ws := w_NT_cut) B.pre⟩
  have hx := hX.1
  have hb := hX.2.1
  have hown := hX.2.2.2.1
  have hts := hX.2.2.2.2
  have hr := B.returns
  have hlk := B.notSynchronized
  have hl := lv_entry ([.ref v0]) (n := 1) (Nat.le_of_ble_eq_true rfl)
  rw [lg_entry_eq]
  generalize (lg_sl ([.ref v0]) ++ List.replicate (1 - (lg_sl ([.ref v0])).length) Slot.unset).toArray = ls at hl ⊢
  have hl : lv_has ls 1 [(0, .ref v0)] := hl
  unfold f_NT_cut at h
  refine lv_aload_n hx hb d_NT_cut_0 rfl (lv_at hl 0 rfl) ?_
  refine g_NT_proof hX t_126 hWd hv0 d_NT_cut_1 ?_
  have q1 := v_NT_proof hWd hv0
  refine g_PF_length hX t_92 hWd q1 d_NT_cut_4 ?_
  refine lv_if_le (tgt := 23) hx hb d_NT_cut_7 (by decide) (fun hc => ?_) (fun hc => ?_)
  · replace h := ifP h hc
    refine lv_aload_n hx hb d_NT_cut_23 rfl (lv_at hl 0 rfl) ?_
    refine g_NT_proof hX t_126 hWd hv0 d_NT_cut_24 ?_
    have q2 := v_NT_proof hWd hv0
    refine g_PF_length hX t_92 hWd q2 d_NT_cut_27 ?_
    subst h
    exact e_iret hX hr hlk hWd d_NT_cut_30
  · replace h := ifN h hc
    refine lv_aload_n hx hb d_NT_cut_10 rfl (lv_at hl 0 rfl) ?_
    refine g_NT_proof hX t_126 hWd hv0 d_NT_cut_11 ?_
    have q3 := v_NT_proof hWd hv0
    refine lv_dup hx hb d_NT_cut_14 rfl ?_
    refine g_PF_length hX t_92 hWd q3 d_NT_cut_15 ?_
    refine lv_iconst (v := 1) hx hb d_NT_cut_18 (by decide) ?_
    refine lv_isub hx hb d_NT_cut_19 ?_
    refine p_PF_length hX t_92 hWd q3 d_NT_cut_20 (fun H locs hWd => ?_)
    obtain ⟨M4, eM4, h⟩ := stE h
    rw [← eM4] at hWd
    refine lv_aload_n hx hb d_NT_cut_23 rfl (lv_at hl 0 rfl) ?_
    refine g_NT_proof hX t_126 hWd hv0 d_NT_cut_24 ?_
    have q5 := v_NT_proof hWd hv0
    refine g_PF_length hX t_92 hWd q5 d_NT_cut_27 ?_
    subst h
    exact e_iret hX hr hlk hWd d_NT_cut_30
set_option maxHeartbeats 4000000 in
set_option maxRecDepth 100000 in
theorem m_NT_verify (l : Launch) {E : En} {K G : Nat → Nat} {L : List Nat} {M : Mm} {sz : Nat} {out : Int32 × Mm} (v0 : Nat) (v1 : Int64) (v3 : Int32) (v4 : Int32) (hv0 : K v0 = 5) (h : f_NT_verify G v0 v1 v3 v4 M = some out) : Met l y_NT_verify w_NT_verify rm_NT_verify (va_Pc [.ref v0, .long v1, .int v3, .int v4] (Wp E K G L M sz)) (QZ E K G L sz out.1 out.2) 0 0 (AL L sz) := by
  refine Met.ofW (cc := b_NT_verify) (maxL := 5) (ret := (some .boolean)) (by decide) rfl ?_
  intro p e s m av below meth c s₁ B hml hv
  obtain ⟨rfl, hWp⟩ := hv
  have hWd := Wd.start hWp
  obtain ⟨rfl, -⟩ := hWp
  have hX : CallFix p m c b_NT_verify 5 s _ w_NT_verify "NibbleTrie" := ⟨B.exec, B.bytes, hml, findClass_of_methodNamed B.named, atoms_spec (ws := w_NT_verify) B.pre⟩
  have hx := hX.1
  have hb := hX.2.1
  have hown := hX.2.2.2.1
  have hts := hX.2.2.2.2
  have hr := B.returns
  have hlk := B.notSynchronized
  have hl := lv_entry ([.ref v0, .long v1, .int v3, .int v4]) (n := 5) (Nat.le_of_ble_eq_true rfl)
  rw [lg_entry_eq]
  generalize (lg_sl ([.ref v0, .long v1, .int v3, .int v4]) ++ List.replicate (5 - (lg_sl ([.ref v0, .long v1, .int v3, .int v4])).length) Slot.unset).toArray = ls at hl ⊢
  have hl : lv_has ls 5 [(0, .ref v0), (1, .long v1), (3, .int v3), (4, .int v4)] := hl
  unfold f_NT_verify at h
  refine lv_iload_n hx hb d_NT_verify_0 rfl (lv_at hl 2 rfl) ?_
  refine lv_i2l hx hb d_NT_verify_1 rfl ?_
  refine kp_z (va_runS (As := [.long (v3.toInt64)]) (rest := []) hX (m_PA_isNumber l  (v3.toInt64) rfl) (cb_PA_isNumber hts t_140 ⟨Nat.le_of_ble_eq_true rfl, Nat.le_of_ble_eq_true rfl⟩) preEq rfl rfl hl.1 rfl (lv_room (Nat.le_of_ble_eq_true rfl)) d_NT_verify_2 ⟨Nat.zero_le _, Nat.zero_le _⟩) (fun z1 => ?_)
  refine lv_if_eq (tgt := 27) hx hb d_NT_verify_5 (by decide) (fun hc => ?_) (fun hc => ?_)
  · replace h := ifP h hc
    refine lv_iconst (v := 0) hx hb d_NT_verify_27 (by decide) ?_
    obtain rfl := Option.some.inj h
    exact e_zret hX hr hlk hWd (Or.inl rfl) d_NT_verify_28
  · replace h := ifN h hc
    refine lv_aload_n hx hb d_NT_verify_8 rfl (lv_at hl 0 rfl) ?_
    refine g_NT_proof hX t_126 hWd hv0 d_NT_verify_9 ?_
    have q2 := v_NT_proof hWd hv0
    refine lv_lload_n hx hb d_NT_verify_12 rfl (lv_at hl 1 rfl) ?_
    refine lv_iload_n hx hb d_NT_verify_13 rfl (lv_at hl 2 rfl) ?_
    refine lv_iload hx hb d_NT_verify_14 (lv_at hl 3 rfl) ?_
    refine lv_i2l hx hb d_NT_verify_16 rfl ?_
    obtain ⟨q3, hq3, h⟩ := ob h
    refine kc_z (va_runV (As := [.long v1, .int v3, .long (v4.toInt64)]) (rest := []) hX (m_PF_shows l  (gr M v0 3) v1 v3 (v4.toInt64) q2 hq3) (cb_PF_shows hts t_371 ⟨Nat.le_of_ble_eq_true rfl, Nat.le_of_ble_eq_true rfl⟩) (pv_PF hWd q2) rfl rfl hl.1 rfl (lv_room (Nat.le_of_ble_eq_true rfl)) d_NT_verify_17 ⟨Nat.zero_le _, Nat.zero_le _⟩) hWd (fun z4 H locs hWd => ?_)
    refine lv_if_eq (tgt := 27) hx hb d_NT_verify_20 (by decide) (fun hc => ?_) (fun hc => ?_)
    · replace h := ifP h hc
      refine lv_iconst (v := 0) hx hb d_NT_verify_27 (by decide) ?_
      obtain rfl := Option.some.inj h
      exact e_zret hX hr hlk hWd (Or.inl rfl) d_NT_verify_28
    · replace h := ifN h hc
      refine lv_iconst (v := 1) hx hb d_NT_verify_23 (by decide) ?_
      refine lv_goto (tgt := 28) hx hb d_NT_verify_24 (by decide) ?_
      obtain rfl := Option.some.inj h
      exact e_zret hX hr hlk hWd (Or.inr rfl) d_NT_verify_28
