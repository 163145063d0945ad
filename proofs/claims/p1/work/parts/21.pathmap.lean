/-! the walks of these methods, by program out of the bytecode -/
set_option maxHeartbeats 4000000 in
set_option maxRecDepth 100000 in
theorem w_PM_rowOf_2 {p : Program} {l : Launch} {e : Env} {s : State} {m : MethodId} {args : Array Value} {below : List Frame} {meth : Method} {c : Code} {E : En} {K G : Nat → Nat} {L : List Nat} (hX : CallFix p m c b_PM_rowOf 3 s args w_PM_rowOf "NibbleTrie$PathMap") (hr : meth.sig.returnType = (some .int)) (hlk : meth.locks = false) {out : Int32} : ∀ (n : Nat) (v0 : Nat) (v1 : Int32) (v2 : Int32) (M : Mm) (H : Heap) (locs : List Loc) (ls : Array Slot), K v0 = 7 → lv_has ls 3 [(0, .ref v0), (1, .int v1), (2, .int v2)] → Wd E K G L M s.heap H locs s → f_PM_rowOf_2 G n v0 v1 v2 M = some out → W p l e rm_PM_rowOf s m args below meth c H locs 0 0 (MQ below (QI E K G L s.heap.size out M) args s 0 0 (AL L s.heap.size)) (F0 m 2 ls []) := by
  have hx := hX.1
  have hb := hX.2.1
  have hown := hX.2.2.2.1
  have hts := hX.2.2.2.2
  intro n
  induction n with
  | zero => intro _ _ _ _ _ _ _ _ _ _ h; rw [f_PM_rowOf_2] at h; cases h
  | succ n ih =>
    intro v0 v1 v2 M H locs ls hv0 hl hWd h
    rw [f_PM_rowOf_2] at h
    refine lv_iload_n hx hb d_PM_rowOf_2 rfl (lv_at hl 2 rfl) ?_
    refine lv_aload_n hx hb d_PM_rowOf_3 rfl (lv_at hl 0 rfl) ?_
    refine g_PM_rows hX t_33 hWd hv0 d_PM_rowOf_4 ?_
    refine lv_icmp_ge (tgt := 28) hx hb d_PM_rowOf_7 (by decide) (fun hc => ?_) (fun hc => ?_)
    · replace h := ifP h hc
      refine lv_iconst (v := (-1)) hx hb d_PM_rowOf_28 (by decide) ?_
      obtain rfl := Option.some.inj h
      exact e_iret hX hr hlk hWd d_PM_rowOf_29
    · replace h := ifN h hc
      refine lv_aload_n hx hb d_PM_rowOf_10 rfl (lv_at hl 0 rfl) ?_
      refine g_PM_paths hX t_29 hWd hv0 d_PM_rowOf_11 ?_
      have q1 := v_PM_paths hWd hv0
      refine lv_iload_n hx hb d_PM_rowOf_14 rfl (lv_at hl 2 rfl) ?_
      obtain ⟨j2, hj2, h⟩ := ob h
      refine r_iald hX hWd q1 hj2 d_PM_rowOf_15 ?_
      refine lv_iload_n hx hb d_PM_rowOf_16 rfl (lv_at hl 1 rfl) ?_
      refine lv_icmp_ne (tgt := 22) hx hb d_PM_rowOf_17 (by decide) (fun hc => ?_) (fun hc => ?_)
      · replace h := ifN h hc
        refine lv_iinc (k := 2) (v := (v2 + 1)) (lv' := [(2, .int (v2 + 1)), (0, .ref v0), (1, .int v1)]) hx hb d_PM_rowOf_22 hl rfl (by rfl) (by decide) rfl (fun ls hl => ?_)
        refine lv_goto (tgt := 2) hx hb d_PM_rowOf_25 (by decide) ?_
        exact ih v0 v1 (v2 + 1) M _ _ _ hv0 (lv_sub hl [1, 2, 0] rfl) hWd h
      · replace h := ifP h hc
        refine lv_iload_n hx hb d_PM_rowOf_20 rfl (lv_at hl 2 rfl) ?_
        obtain rfl := Option.some.inj h
        exact e_iret hX hr hlk hWd d_PM_rowOf_21
set_option maxHeartbeats 4000000 in
set_option maxRecDepth 100000 in
theorem m_PM_rowOf (l : Launch) {E : En} {K G : Nat → Nat} {L : List Nat} {M : Mm} {sz : Nat} {out : Int32} (v0 : Nat) (v1 : Int32) (hv0 : K v0 = 7) (h : f_PM_rowOf G v0 v1 M = some out) : Met l y_PM_rowOf w_PM_rowOf rm_PM_rowOf (va_Pc [.ref v0, .int v1] (Wp E K G L M sz)) (QI E K G L sz out M) 0 0 (AL L sz) := by
  refine Met.ofW (cc := b_PM_rowOf) (maxL := 3) (ret := (some .int)) (by decide) rfl ?_
  intro p e s m av below meth c s₁ B hml hv
  obtain ⟨rfl, hWp⟩ := hv
  have hWd := Wd.start hWp
  obtain ⟨rfl, -⟩ := hWp
  have hX : CallFix p m c b_PM_rowOf 3 s _ w_PM_rowOf "NibbleTrie$PathMap" := ⟨B.exec, B.bytes, hml, findClass_of_methodNamed B.named, atoms_spec (ws := w_PM_rowOf) B.pre⟩
  have hx := hX.1
  have hb := hX.2.1
  have hown := hX.2.2.2.1
  have hts := hX.2.2.2.2
  have hr := B.returns
  have hlk := B.notSynchronized
  have hl := lv_entry ([.ref v0, .int v1]) (n := 3) (Nat.le_of_ble_eq_true rfl)
  rw [lg_entry_eq]
  generalize (lg_sl ([.ref v0, .int v1]) ++ List.replicate (3 - (lg_sl ([.ref v0, .int v1])).length) Slot.unset).toArray = ls at hl ⊢
  have hl : lv_has ls 3 [(0, .ref v0), (1, .int v1)] := hl
  unfold f_PM_rowOf at h
  refine lv_iconst (v := 0) hx hb d_PM_rowOf_0 (by decide) ?_
  refine lv_istore_n (lv' := [(2, .int 0), (0, .ref v0), (1, .int v1)]) hx hb d_PM_rowOf_1 rfl hl (by decide) rfl (fun ls hl => ?_)
  exact w_PM_rowOf_2 hX hr hlk FU v0 v1 0 M _ _ _ hv0 (lv_sub hl [1, 2, 0] rfl) hWd h
set_option maxHeartbeats 4000000 in
set_option maxRecDepth 100000 in
theorem m_PM_valueOf (l : Launch) {E : En} {K G : Nat → Nat} {L : List Nat} {M : Mm} {sz : Nat} {out : Int32} (v0 : Nat) (v1 : Int32) (hv0 : K v0 = 7) (h : f_PM_valueOf G v0 v1 M = some out) : Met l y_PM_valueOf w_PM_valueOf rm_PM_valueOf (va_Pc [.ref v0, .int v1] (Wp E K G L M sz)) (QI E K G L sz out M) 0 0 (AL L sz) := by
  refine Met.ofW (cc := b_PM_valueOf) (maxL := 3) (ret := (some .int)) (by decide) rfl ?_
  intro p e s m av below meth c s₁ B hml hv
  obtain ⟨rfl, hWp⟩ := hv
  have hWd := Wd.start hWp
  obtain ⟨rfl, -⟩ := hWp
  have hX : CallFix p m c b_PM_valueOf 3 s _ w_PM_valueOf "NibbleTrie$PathMap" := ⟨B.exec, B.bytes, hml, findClass_of_methodNamed B.named, atoms_spec (ws := w_PM_valueOf) B.pre⟩
  have hx := hX.1
  have hb := hX.2.1
  have hown := hX.2.2.2.1
  have hts := hX.2.2.2.2
  have hr := B.returns
  have hlk := B.notSynchronized
  have hl := lv_entry ([.ref v0, .int v1]) (n := 3) (Nat.le_of_ble_eq_true rfl)
  rw [lg_entry_eq]
  generalize (lg_sl ([.ref v0, .int v1]) ++ List.replicate (3 - (lg_sl ([.ref v0, .int v1])).length) Slot.unset).toArray = ls at hl ⊢
  have hl : lv_has ls 3 [(0, .ref v0), (1, .int v1)] := hl
  unfold f_PM_valueOf at h
  refine lv_aload_n hx hb d_PM_valueOf_0 rfl (lv_at hl 0 rfl) ?_
  refine lv_iload_n hx hb d_PM_valueOf_1 rfl (lv_at hl 1 rfl) ?_
  obtain ⟨q1, hq1, h⟩ := ob h
  refine kc_i (va_runV (As := [.int v1]) (rest := []) hX (m_PM_rowOf l  v0 v1 hv0 hq1) (cb_PM_rowOf hts t_215 ⟨Nat.le_of_ble_eq_true rfl, Nat.le_of_ble_eq_true rfl⟩) (pv_PM hWd hv0) rfl rfl hl.1 rfl (lv_room (Nat.le_of_ble_eq_true rfl)) d_PM_valueOf_2 ⟨Nat.zero_le _, Nat.zero_le _⟩) hWd (fun H locs hWd => ?_)
  refine lv_istore_n (lv' := [(2, .int q1), (0, .ref v0), (1, .int v1)]) hx hb d_PM_valueOf_5 rfl hl (by decide) rfl (fun ls hl => ?_)
  refine lv_iload_n hx hb d_PM_valueOf_6 rfl (lv_at hl 0 rfl) ?_
  refine lv_iconst (v := (-1)) hx hb d_PM_valueOf_7 (by decide) ?_
  refine lv_icmp_ne (tgt := 15) hx hb d_PM_valueOf_8 (by decide) (fun hc => ?_) (fun hc => ?_)
  · replace h := ifN h hc
    refine lv_aload_n hx hb d_PM_valueOf_15 rfl (lv_at hl 1 rfl) ?_
    refine g_PM_values hX t_31 hWd hv0 d_PM_valueOf_16 ?_
    have q2 := v_PM_values hWd hv0
    refine lv_iload_n hx hb d_PM_valueOf_19 rfl (lv_at hl 0 rfl) ?_
    obtain ⟨j3, hj3, h⟩ := ob h
    refine r_iald hX hWd q2 hj3 d_PM_valueOf_20 ?_
    obtain rfl := Option.some.inj h
    exact e_iret hX hr hlk hWd d_PM_valueOf_21
  · replace h := ifP h hc
    refine lv_iconst (v := 0) hx hb d_PM_valueOf_11 (by decide) ?_
    refine lv_goto (tgt := 21) hx hb d_PM_valueOf_12 (by decide) ?_
    obtain rfl := Option.some.inj h
    exact e_iret hX hr hlk hWd d_PM_valueOf_21
set_option maxHeartbeats 4000000 in
set_option maxRecDepth 100000 in
theorem w_PM_insert_15 {p : Program} {l : Launch} {e : Env} {s : State} {m : MethodId} {args : Array Value} {below : List Frame} {meth : Method} {c : Code} {E : En} {K G : Nat → Nat} {L : List Nat} (hX : CallFix p m c b_PM_insert 4 s args w_PM_insert "NibbleTrie$PathMap") (hr : meth.sig.returnType = none) (hlk : meth.locks = false) {out : Mm} : ∀ (n : Nat) (v0 : Nat) (v1 : Int32) (v2 : Int32) (v3 : Int32) (M : Mm) (H : Heap) (locs : List Loc) (ls : Array Slot), K v0 = 7 → lv_has ls 4 [(0, .ref v0), (1, .int v1), (2, .int v2), (3, .int v3)] → Wd E K G L M s.heap H locs s → f_PM_insert_15 G n v0 v1 v2 v3 M = some out → W p l e rm_PM_insert s m args below meth c H locs 0 0 (MQ below (QV E K G L s.heap.size out) args s 0 0 (AL L s.heap.size)) (F0 m 15 ls []) := by
  have hx := hX.1
  have hb := hX.2.1
  have hown := hX.2.2.2.1
  have hts := hX.2.2.2.2
  intro n
  induction n with
  | zero => intro _ _ _ _ _ _ _ _ _ _ _ h; rw [f_PM_insert_15] at h; cases h
  | succ n ih =>
    intro v0 v1 v2 v3 M H locs ls hv0 hl hWd h
    rw [f_PM_insert_15] at h
    refine lv_iload_n hx hb d_PM_insert_15 rfl (lv_at hl 3 rfl) ?_
    refine lv_if_le (tgt := 71) hx hb d_PM_insert_16 (by decide) (fun hc => ?_) (fun hc => ?_)
    · replace h := ifP h hc
      refine lv_aload_n hx hb d_PM_insert_71 rfl (lv_at hl 0 rfl) ?_
      refine g_PM_paths hX t_29 hWd hv0 d_PM_insert_72 ?_
      have q1 := v_PM_paths hWd hv0
      refine lv_iload_n hx hb d_PM_insert_75 rfl (lv_at hl 3 rfl) ?_
      refine lv_iload_n hx hb d_PM_insert_76 rfl (lv_at hl 1 rfl) ?_
      obtain ⟨j2, hj2, h⟩ := ob h
      refine r_iast hX hWd q1 hj2 d_PM_insert_77 (fun H locs hWd => ?_)
      obtain ⟨M3, eM3, h⟩ := stE h
      rw [← eM3] at hWd
      refine lv_aload_n hx hb d_PM_insert_78 rfl (lv_at hl 0 rfl) ?_
      refine g_PM_values hX t_31 hWd hv0 d_PM_insert_79 ?_
      have q4 := v_PM_values hWd hv0
      refine lv_iload_n hx hb d_PM_insert_82 rfl (lv_at hl 3 rfl) ?_
      refine lv_iload_n hx hb d_PM_insert_83 rfl (lv_at hl 2 rfl) ?_
      obtain ⟨j5, hj5, h⟩ := ob h
      refine r_iast hX hWd q4 hj5 d_PM_insert_84 (fun H locs hWd => ?_)
      obtain ⟨M6, eM6, h⟩ := stE h
      rw [← eM6] at hWd
      refine lv_aload_n hx hb d_PM_insert_85 rfl (lv_at hl 0 rfl) ?_
      refine lv_dup hx hb d_PM_insert_86 rfl ?_
      refine g_PM_rows hX t_33 hWd hv0 d_PM_insert_87 ?_
      refine lv_iconst (v := 1) hx hb d_PM_insert_90 (by decide) ?_
      refine lv_iadd hx hb d_PM_insert_91 ?_
      refine p_PM_rows hX t_33 hWd hv0 d_PM_insert_92 (fun H locs hWd => ?_)
      obtain ⟨M7, eM7, h⟩ := stE h
      rw [← eM7] at hWd
      obtain rfl := Option.some.inj h
      exact e_vret hX hr hlk hWd d_PM_insert_95
    · replace h := ifN h hc
      refine lv_aload_n hx hb d_PM_insert_19 rfl (lv_at hl 0 rfl) ?_
      refine g_PM_paths hX t_29 hWd hv0 d_PM_insert_20 ?_
      have q8 := v_PM_paths hWd hv0
      refine lv_iload_n hx hb d_PM_insert_23 rfl (lv_at hl 3 rfl) ?_
      refine lv_iconst (v := 1) hx hb d_PM_insert_24 (by decide) ?_
      refine lv_isub hx hb d_PM_insert_25 ?_
      obtain ⟨j9, hj9, h⟩ := ob h
      refine r_iald hX hWd q8 hj9 d_PM_insert_26 ?_
      refine kp_i (va_runS (As := [.int (gi M (gr M v0 0) j9)]) (rest := []) hX (m_PA_order l  (gi M (gr M v0 0) j9) rfl) (cb_PA_order hts t_163 ⟨Nat.le_of_ble_eq_true rfl, Nat.le_of_ble_eq_true rfl⟩) preEq rfl rfl hl.1 rfl (lv_room (Nat.le_of_ble_eq_true rfl)) d_PM_insert_27 ⟨Nat.zero_le _, Nat.zero_le _⟩) ?_
      refine lv_iload_n hx hb d_PM_insert_30 rfl (lv_at hl 1 rfl) ?_
      refine kp_i (va_runS (As := [.int v1]) (rest := [.int (f_PA_order (gi M (gr M v0 0) j9))]) hX (m_PA_order l  v1 rfl) (cb_PA_order hts t_163 ⟨Nat.le_of_ble_eq_true rfl, Nat.le_of_ble_eq_true rfl⟩) preEq rfl rfl hl.1 rfl (lv_room (Nat.le_of_ble_eq_true rfl)) d_PM_insert_31 ⟨Nat.zero_le _, Nat.zero_le _⟩) ?_
      refine lv_icmp_le (tgt := 71) hx hb d_PM_insert_34 (by decide) (fun hc => ?_) (fun hc => ?_)
      · replace h := ifP h hc
        refine lv_aload_n hx hb d_PM_insert_71 rfl (lv_at hl 0 rfl) ?_
        refine g_PM_paths hX t_29 hWd hv0 d_PM_insert_72 ?_
        have q10 := v_PM_paths hWd hv0
        refine lv_iload_n hx hb d_PM_insert_75 rfl (lv_at hl 3 rfl) ?_
        refine lv_iload_n hx hb d_PM_insert_76 rfl (lv_at hl 1 rfl) ?_
        obtain ⟨j11, hj11, h⟩ := ob h
        refine r_iast hX hWd q10 hj11 d_PM_insert_77 (fun H locs hWd => ?_)
        obtain ⟨M12, eM12, h⟩ := stE h
        rw [← eM12] at hWd
        refine lv_aload_n hx hb d_PM_insert_78 rfl (lv_at hl 0 rfl) ?_
        refine g_PM_values hX t_31 hWd hv0 d_PM_insert_79 ?_
        have q13 := v_PM_values hWd hv0
        refine lv_iload_n hx hb d_PM_insert_82 rfl (lv_at hl 3 rfl) ?_
        refine lv_iload_n hx hb d_PM_insert_83 rfl (lv_at hl 2 rfl) ?_
        obtain ⟨j14, hj14, h⟩ := ob h
        refine r_iast hX hWd q13 hj14 d_PM_insert_84 (fun H locs hWd => ?_)
        obtain ⟨M15, eM15, h⟩ := stE h
        rw [← eM15] at hWd
        refine lv_aload_n hx hb d_PM_insert_85 rfl (lv_at hl 0 rfl) ?_
        refine lv_dup hx hb d_PM_insert_86 rfl ?_
        refine g_PM_rows hX t_33 hWd hv0 d_PM_insert_87 ?_
        refine lv_iconst (v := 1) hx hb d_PM_insert_90 (by decide) ?_
        refine lv_iadd hx hb d_PM_insert_91 ?_
        refine p_PM_rows hX t_33 hWd hv0 d_PM_insert_92 (fun H locs hWd => ?_)
        obtain ⟨M16, eM16, h⟩ := stE h
        rw [← eM16] at hWd
        obtain rfl := Option.some.inj h
        exact e_vret hX hr hlk hWd d_PM_insert_95
      · replace h := ifN h hc
        refine lv_aload_n hx hb d_PM_insert_37 rfl (lv_at hl 0 rfl) ?_
        refine g_PM_paths hX t_29 hWd hv0 d_PM_insert_38 ?_
        have q17 := v_PM_paths hWd hv0
        refine lv_iload_n hx hb d_PM_insert_41 rfl (lv_at hl 3 rfl) ?_
        refine lv_aload_n hx hb d_PM_insert_42 rfl (lv_at hl 0 rfl) ?_
        refine g_PM_paths hX t_29 hWd hv0 d_PM_insert_43 ?_
        have q18 := v_PM_paths hWd hv0
        refine lv_iload_n hx hb d_PM_insert_46 rfl (lv_at hl 3 rfl) ?_
        refine lv_iconst (v := 1) hx hb d_PM_insert_47 (by decide) ?_
        refine lv_isub hx hb d_PM_insert_48 ?_
        obtain ⟨j19, hj19, h⟩ := ob h
        refine r_iald hX hWd q18 hj19 d_PM_insert_49 ?_
        obtain ⟨j20, hj20, h⟩ := ob h
        refine r_iast hX hWd q17 hj20 d_PM_insert_50 (fun H locs hWd => ?_)
        obtain ⟨M21, eM21, h⟩ := stE h
        rw [← eM21] at hWd
        refine lv_aload_n hx hb d_PM_insert_51 rfl (lv_at hl 0 rfl) ?_
        refine g_PM_values hX t_31 hWd hv0 d_PM_insert_52 ?_
        have q22 := v_PM_values hWd hv0
        refine lv_iload_n hx hb d_PM_insert_55 rfl (lv_at hl 3 rfl) ?_
        refine lv_aload_n hx hb d_PM_insert_56 rfl (lv_at hl 0 rfl) ?_
        refine g_PM_values hX t_31 hWd hv0 d_PM_insert_57 ?_
        have q23 := v_PM_values hWd hv0
        refine lv_iload_n hx hb d_PM_insert_60 rfl (lv_at hl 3 rfl) ?_
        refine lv_iconst (v := 1) hx hb d_PM_insert_61 (by decide) ?_
        refine lv_isub hx hb d_PM_insert_62 ?_
        obtain ⟨j24, hj24, h⟩ := ob h
        refine r_iald hX hWd q23 hj24 d_PM_insert_63 ?_
        obtain ⟨j25, hj25, h⟩ := ob h
        refine r_iast hX hWd q22 hj25 d_PM_insert_64 (fun H locs hWd => ?_)
        obtain ⟨M26, eM26, h⟩ := stE h
        rw [← eM26] at hWd
        refine lv_iinc (k := 3) (v := (v3 + (-1))) (lv' := [(3, .int (v3 + (-1))), (0, .ref v0), (1, .int v1), (2, .int v2)]) hx hb d_PM_insert_65 hl rfl (by rfl) (by decide) rfl (fun ls hl => ?_)
        refine lv_goto (tgt := 15) hx hb d_PM_insert_68 (by decide) ?_
        exact ih v0 v1 v2 (v3 + (-1)) M26 _ _ _ hv0 (lv_sub hl [1, 2, 3, 0] rfl) hWd h
set_option maxHeartbeats 4000000 in
set_option maxRecDepth 100000 in
theorem m_PM_insert (l : Launch) {E : En} {K G : Nat → Nat} {L : List Nat} {M : Mm} {sz : Nat} {out : Mm} (v0 : Nat) (v1 : Int32) (v2 : Int32) (hv0 : K v0 = 7) (h : f_PM_insert G v0 v1 v2 M = some out) : Met l y_PM_insert w_PM_insert rm_PM_insert (va_Pc [.ref v0, .int v1, .int v2] (Wp E K G L M sz)) (QV E K G L sz out) 0 0 (AL L sz) := by
  refine Met.ofW (cc := b_PM_insert) (maxL := 4) (ret := none) (by decide) rfl ?_
  intro p e s m av below meth c s₁ B hml hv
  obtain ⟨rfl, hWp⟩ := hv
  have hWd := Wd.start hWp
  obtain ⟨rfl, -⟩ := hWp
  have hX : CallFix p m c b_PM_insert 4 s _ w_PM_insert "NibbleTrie$PathMap" := ⟨B.exec, B.bytes, hml, findClass_of_methodNamed B.named, atoms_spec (ws := w_PM_insert) B.pre⟩
  have hx := hX.1
  have hb := hX.2.1
  have hown := hX.2.2.2.1
  have hts := hX.2.2.2.2
  have hr := B.returns
  have hlk := B.notSynchronized
  have hl := lv_entry ([.ref v0, .int v1, .int v2]) (n := 4) (Nat.le_of_ble_eq_true rfl)
  rw [lg_entry_eq]
  generalize (lg_sl ([.ref v0, .int v1, .int v2]) ++ List.replicate (4 - (lg_sl ([.ref v0, .int v1, .int v2])).length) Slot.unset).toArray = ls at hl ⊢
  have hl : lv_has ls 4 [(0, .ref v0), (1, .int v1), (2, .int v2)] := hl
  unfold f_PM_insert at h
  refine lv_aload_n hx hb d_PM_insert_0 rfl (lv_at hl 0 rfl) ?_
  refine g_PM_rows hX t_33 hWd hv0 d_PM_insert_1 ?_
  refine lv_bipush (v := 16) hx hb d_PM_insert_4 (by decide) ?_
  refine lv_icmp_ne (tgt := 10) hx hb d_PM_insert_6 (by decide) (fun hc => ?_) (fun hc => ?_)
  · replace h := ifN h hc
    refine lv_aload_n hx hb d_PM_insert_10 rfl (lv_at hl 0 rfl) ?_
    refine g_PM_rows hX t_33 hWd hv0 d_PM_insert_11 ?_
    refine lv_istore_n (lv' := [(3, .int (gi M v0 2)), (0, .ref v0), (1, .int v1), (2, .int v2)]) hx hb d_PM_insert_14 rfl hl (by decide) rfl (fun ls hl => ?_)
    exact w_PM_insert_15 hX hr hlk FU v0 v1 v2 (gi M v0 2) M _ _ _ hv0 (lv_sub hl [1, 2, 3, 0] rfl) hWd h
  · replace h := ifP h hc
    obtain rfl := Option.some.inj h
    exact e_vret hX hr hlk hWd d_PM_insert_9
set_option maxHeartbeats 4000000 in
set_option maxRecDepth 100000 in
theorem w_PM_remove_12 {p : Program} {l : Launch} {e : Env} {s : State} {m : MethodId} {args : Array Value} {below : List Frame} {meth : Method} {c : Code} {E : En} {K G : Nat → Nat} {L : List Nat} (hX : CallFix p m c b_PM_remove 3 s args w_PM_remove "NibbleTrie$PathMap") (hr : meth.sig.returnType = none) (hlk : meth.locks = false) {out : Mm} : ∀ (n : Nat) (v0 : Nat) (v2 : Int32) (M : Mm) (H : Heap) (locs : List Loc) (ls : Array Slot), K v0 = 7 → lv_has ls 3 [(0, .ref v0), (2, .int v2)] → Wd E K G L M s.heap H locs s → f_PM_remove_12 G n v0 v2 M = some out → W p l e rm_PM_remove s m args below meth c H locs 0 0 (MQ below (QV E K G L s.heap.size out) args s 0 0 (AL L s.heap.size)) (F0 m 12 ls []) := by
  have hx := hX.1
  have hb := hX.2.1
  have hown := hX.2.2.2.1
  have hts := hX.2.2.2.2
  intro n
  induction n with
  | zero => intro _ _ _ _ _ _ _ _ _ h; rw [f_PM_remove_12] at h; cases h
  | succ n ih =>
    intro v0 v2 M H locs ls hv0 hl hWd h
    rw [f_PM_remove_12] at h
    refine lv_iload_n hx hb d_PM_remove_12 rfl (lv_at hl 1 rfl) ?_
    refine lv_aload_n hx hb d_PM_remove_13 rfl (lv_at hl 0 rfl) ?_
    refine g_PM_rows hX t_33 hWd hv0 d_PM_remove_14 ?_
    refine lv_icmp_ge (tgt := 54) hx hb d_PM_remove_17 (by decide) (fun hc => ?_) (fun hc => ?_)
    · replace h := ifP h hc
      obtain rfl := Option.some.inj h
      exact e_vret hX hr hlk hWd d_PM_remove_54
    · replace h := ifN h hc
      refine lv_aload_n hx hb d_PM_remove_20 rfl (lv_at hl 0 rfl) ?_
      refine g_PM_paths hX t_29 hWd hv0 d_PM_remove_21 ?_
      have q1 := v_PM_paths hWd hv0
      refine lv_iload_n hx hb d_PM_remove_24 rfl (lv_at hl 1 rfl) ?_
      refine lv_aload_n hx hb d_PM_remove_25 rfl (lv_at hl 0 rfl) ?_
      refine g_PM_paths hX t_29 hWd hv0 d_PM_remove_26 ?_
      have q2 := v_PM_paths hWd hv0
      refine lv_iload_n hx hb d_PM_remove_29 rfl (lv_at hl 1 rfl) ?_
      refine lv_iconst (v := 1) hx hb d_PM_remove_30 (by decide) ?_
      refine lv_iadd hx hb d_PM_remove_31 ?_
      obtain ⟨j3, hj3, h⟩ := ob h
      refine r_iald hX hWd q2 hj3 d_PM_remove_32 ?_
      obtain ⟨j4, hj4, h⟩ := ob h
      refine r_iast hX hWd q1 hj4 d_PM_remove_33 (fun H locs hWd => ?_)
      obtain ⟨M5, eM5, h⟩ := stE h
      rw [← eM5] at hWd
      refine lv_aload_n hx hb d_PM_remove_34 rfl (lv_at hl 0 rfl) ?_
      refine g_PM_values hX t_31 hWd hv0 d_PM_remove_35 ?_
      have q6 := v_PM_values hWd hv0
      refine lv_iload_n hx hb d_PM_remove_38 rfl (lv_at hl 1 rfl) ?_
      refine lv_aload_n hx hb d_PM_remove_39 rfl (lv_at hl 0 rfl) ?_
      refine g_PM_values hX t_31 hWd hv0 d_PM_remove_40 ?_
      have q7 := v_PM_values hWd hv0
      refine lv_iload_n hx hb d_PM_remove_43 rfl (lv_at hl 1 rfl) ?_
      refine lv_iconst (v := 1) hx hb d_PM_remove_44 (by decide) ?_
      refine lv_iadd hx hb d_PM_remove_45 ?_
      obtain ⟨j8, hj8, h⟩ := ob h
      refine r_iald hX hWd q7 hj8 d_PM_remove_46 ?_
      obtain ⟨j9, hj9, h⟩ := ob h
      refine r_iast hX hWd q6 hj9 d_PM_remove_47 (fun H locs hWd => ?_)
      obtain ⟨M10, eM10, h⟩ := stE h
      rw [← eM10] at hWd
      refine lv_iinc (k := 1) (v := (v2 + 1)) (lv' := [(2, .int (v2 + 1)), (0, .ref v0)]) hx hb d_PM_remove_48 hl rfl (by rfl) (by decide) rfl (fun ls hl => ?_)
      refine lv_goto (tgt := 12) hx hb d_PM_remove_51 (by decide) ?_
      exact ih v0 (v2 + 1) M10 _ _ _ hv0 (lv_sub hl [1, 0] rfl) hWd h
set_option maxHeartbeats 4000000 in
set_option maxRecDepth 100000 in
theorem m_PM_remove (l : Launch) {E : En} {K G : Nat → Nat} {L : List Nat} {M : Mm} {sz : Nat} {out : Mm} (v0 : Nat) (v1 : Int32) (hv0 : K v0 = 7) (h : f_PM_remove G v0 v1 M = some out) : Met l y_PM_remove w_PM_remove rm_PM_remove (va_Pc [.ref v0, .int v1] (Wp E K G L M sz)) (QV E K G L sz out) 0 0 (AL L sz) := by
  refine Met.ofW (cc := b_PM_remove) (maxL := 3) (ret := none) (by decide) rfl ?_
  intro p e s m av below meth c s₁ B hml hv
  obtain ⟨rfl, hWp⟩ := hv
  have hWd := Wd.start hWp
  obtain ⟨rfl, -⟩ := hWp
  have hX : CallFix p m c b_PM_remove 3 s _ w_PM_remove "NibbleTrie$PathMap" := ⟨B.exec, B.bytes, hml, findClass_of_methodNamed B.named, atoms_spec (ws := w_PM_remove) B.pre⟩
  have hx := hX.1
  have hb := hX.2.1
  have hown := hX.2.2.2.1
  have hts := hX.2.2.2.2
  have hr := B.returns
  have hlk := B.notSynchronized
  have hl := lv_entry ([.ref v0, .int v1]) (n := 3) (Nat.le_of_ble_eq_true rfl)
  rw [lg_entry_eq]
  generalize (lg_sl ([.ref v0, .int v1]) ++ List.replicate (3 - (lg_sl ([.ref v0, .int v1])).length) Slot.unset).toArray = ls at hl ⊢
  have hl : lv_has ls 3 [(0, .ref v0), (1, .int v1)] := hl
  unfold f_PM_remove at h
  refine lv_aload_n hx hb d_PM_remove_0 rfl (lv_at hl 0 rfl) ?_
  refine lv_dup hx hb d_PM_remove_1 rfl ?_
  refine g_PM_rows hX t_33 hWd hv0 d_PM_remove_2 ?_
  refine lv_iconst (v := 1) hx hb d_PM_remove_5 (by decide) ?_
  refine lv_isub hx hb d_PM_remove_6 ?_
  refine p_PM_rows hX t_33 hWd hv0 d_PM_remove_7 (fun H locs hWd => ?_)
  obtain ⟨M1, eM1, h⟩ := stE h
  rw [← eM1] at hWd
  refine lv_iload_n hx hb d_PM_remove_10 rfl (lv_at hl 1 rfl) ?_
  refine lv_istore_n (lv' := [(2, .int v1), (0, .ref v0), (1, .int v1)]) hx hb d_PM_remove_11 rfl hl (by decide) rfl (fun ls hl => ?_)
  exact w_PM_remove_12 hX hr hlk FU v0 v1 M1 _ _ _ hv0 (lv_sub hl [1, 0] rfl) hWd h
set_option maxHeartbeats 4000000 in
set_option maxRecDepth 100000 in
theorem m_PM_copy (l : Launch) {E : En} {K G : Nat → Nat} {L : List Nat} {M : Mm} {sz : Nat} {out : Mm} (v0 : Nat) (v1 : Nat) (hv0 : K v0 = 7) (hv1 : K v1 = 7) (h : f_PM_copy G v0 v1 M = some out) : Met l y_PM_copy w_PM_copy rm_PM_copy (va_Pc [.ref v0, .ref v1] (Wp E K G L M sz)) (QV E K G L sz out) 0 0 (AL L sz) := by
  refine Met.ofW (cc := b_PM_copy) (maxL := 2) (ret := none) (by decide) rfl ?_
  intro p e s m av below meth c s₁ B hml hv
  obtain ⟨rfl, hWp⟩ := hv
  have hWd := Wd.start hWp
  obtain ⟨rfl, -⟩ := hWp
  have hX : CallFix p m c b_PM_copy 2 s _ w_PM_copy "NibbleTrie$PathMap" := ⟨B.exec, B.bytes, hml, findClass_of_methodNamed B.named, atoms_spec (ws := w_PM_copy) B.pre⟩
  have hx := hX.1
  have hb := hX.2.1
  have hown := hX.2.2.2.1
  have hts := hX.2.2.2.2
  have hr := B.returns
  have hlk := B.notSynchronized
  have hl := lv_entry ([.ref v0, .ref v1]) (n := 2) (Nat.le_of_ble_eq_true rfl)
  rw [lg_entry_eq]
  generalize (lg_sl ([.ref v0, .ref v1]) ++ List.replicate (2 - (lg_sl ([.ref v0, .ref v1])).length) Slot.unset).toArray = ls at hl ⊢
  have hl : lv_has ls 2 [(0, .ref v0), (1, .ref v1)] := hl
  unfold f_PM_copy at h
  refine lv_aload_n hx hb d_PM_copy_0 rfl (lv_at hl 0 rfl) ?_
  refine lv_aload_n hx hb d_PM_copy_1 rfl (lv_at hl 1 rfl) ?_
  refine g_PM_rows hX t_33 hWd hv1 d_PM_copy_2 ?_
  refine p_PM_rows hX t_33 hWd hv0 d_PM_copy_5 (fun H locs hWd => ?_)
  obtain ⟨M1, eM1, h⟩ := stE h
  rw [← eM1] at hWd
  refine lv_aload_n hx hb d_PM_copy_8 rfl (lv_at hl 1 rfl) ?_
  refine g_PM_paths hX t_29 hWd hv1 d_PM_copy_9 ?_
  have q2 := v_PM_paths hWd hv1
  refine lv_iconst (v := 0) hx hb d_PM_copy_12 (by decide) ?_
  refine lv_aload_n hx hb d_PM_copy_13 rfl (lv_at hl 0 rfl) ?_
  refine g_PM_paths hX t_29 hWd hv0 d_PM_copy_14 ?_
  have q3 := v_PM_paths hWd hv0
  refine lv_iconst (v := 0) hx hb d_PM_copy_17 (by decide) ?_
  refine lv_aload_n hx hb d_PM_copy_18 rfl (lv_at hl 0 rfl) ?_
  refine g_PM_rows hX t_33 hWd hv0 d_PM_copy_19 ?_
  obtain ⟨M4, hM4, h⟩ := ob h
  refine r_copy hX t_287 hl.1 (Nat.le_of_ble_eq_true rfl) (Nat.le_of_ble_eq_true rfl) hWd q2 q3 hM4 d_PM_copy_22 (fun H locs hWd => ?_)
  refine lv_aload_n hx hb d_PM_copy_25 rfl (lv_at hl 1 rfl) ?_
  refine g_PM_values hX t_31 hWd hv1 d_PM_copy_26 ?_
  have q5 := v_PM_values hWd hv1
  refine lv_iconst (v := 0) hx hb d_PM_copy_29 (by decide) ?_
  refine lv_aload_n hx hb d_PM_copy_30 rfl (lv_at hl 0 rfl) ?_
  refine g_PM_values hX t_31 hWd hv0 d_PM_copy_31 ?_
  have q6 := v_PM_values hWd hv0
  refine lv_iconst (v := 0) hx hb d_PM_copy_34 (by decide) ?_
  refine lv_aload_n hx hb d_PM_copy_35 rfl (lv_at hl 0 rfl) ?_
  refine g_PM_rows hX t_33 hWd hv0 d_PM_copy_36 ?_
  obtain ⟨M7, hM7, h⟩ := ob h
  refine r_copy hX t_287 hl.1 (Nat.le_of_ble_eq_true rfl) (Nat.le_of_ble_eq_true rfl) hWd q5 q6 hM7 d_PM_copy_39 (fun H locs hWd => ?_)
  obtain rfl := Option.some.inj h
  exact e_vret hX hr hlk hWd d_PM_copy_42
set_option maxHeartbeats 4000000 in
set_option maxRecDepth 100000 in
theorem m_PM_endsAt (l : Launch) {E : En} {K G : Nat → Nat} {L : List Nat} {M : Mm} {sz : Nat} {out : Int32} (v0 : Nat) (v1 : Int32) (v2 : Int32) (hv0 : K v0 = 7) (h : f_PM_endsAt G v0 v1 v2 M = some out) : Met l y_PM_endsAt w_PM_endsAt rm_PM_endsAt (va_Pc [.ref v0, .int v1, .int v2] (Wp E K G L M sz)) (QZ E K G L sz out M) 0 0 (AL L sz) := by
  refine Met.ofW (cc := b_PM_endsAt) (maxL := 3) (ret := (some .boolean)) (by decide) rfl ?_
  intro p e s m av below meth c s₁ B hml hv
  obtain ⟨rfl, hWp⟩ := hv
  have hWd := Wd.start hWp
  obtain ⟨rfl, -⟩ := hWp
  have hX : CallFix p m c b_PM_endsAt 3 s _ w_PM_endsAt "NibbleTrie$PathMap" := ⟨B.exec, B.bytes, hml, findClass_of_methodNamed B.named, atoms_spec (ws := w_PM_endsAt) B.pre⟩
  have hx := hX.1
  have hb := hX.2.1
  have hown := hX.2.2.2.1
  have hts := hX.2.2.2.2
  have hr := B.returns
  have hlk := B.notSynchronized
  have hl := lv_entry ([.ref v0, .int v1, .int v2]) (n := 3) (Nat.le_of_ble_eq_true rfl)
  rw [lg_entry_eq]
  generalize (lg_sl ([.ref v0, .int v1, .int v2]) ++ List.replicate (3 - (lg_sl ([.ref v0, .int v1, .int v2])).length) Slot.unset).toArray = ls at hl ⊢
  have hl : lv_has ls 3 [(0, .ref v0), (1, .int v1), (2, .int v2)] := hl
  unfold f_PM_endsAt at h
  refine lv_aload_n hx hb d_PM_endsAt_0 rfl (lv_at hl 0 rfl) ?_
  refine g_PM_paths hX t_29 hWd hv0 d_PM_endsAt_1 ?_
  have q1 := v_PM_paths hWd hv0
  refine lv_iload_n hx hb d_PM_endsAt_4 rfl (lv_at hl 1 rfl) ?_
  obtain ⟨j2, hj2, h⟩ := ob h
  refine r_iald hX hWd q1 hj2 d_PM_endsAt_5 ?_
  refine kp_i (va_runS (As := [.int (gi M (gr M v0 0) j2)]) (rest := []) hX (m_PA_length l  (gi M (gr M v0 0) j2) rfl) (cb_PA_length hts t_197 ⟨Nat.le_of_ble_eq_true rfl, Nat.le_of_ble_eq_true rfl⟩) preEq rfl rfl hl.1 rfl (lv_room (Nat.le_of_ble_eq_true rfl)) d_PM_endsAt_6 ⟨Nat.zero_le _, Nat.zero_le _⟩) ?_
  refine lv_iload_n hx hb d_PM_endsAt_9 rfl (lv_at hl 2 rfl) ?_
  refine lv_icmp_ne (tgt := 17) hx hb d_PM_endsAt_10 (by decide) (fun hc => ?_) (fun hc => ?_)
  · replace h := ifN h hc
    refine lv_iconst (v := 0) hx hb d_PM_endsAt_17 (by decide) ?_
    obtain rfl := Option.some.inj h
    exact e_zret hX hr hlk hWd (Or.inl rfl) d_PM_endsAt_18
  · replace h := ifP h hc
    refine lv_iconst (v := 1) hx hb d_PM_endsAt_13 (by decide) ?_
    refine lv_goto (tgt := 18) hx hb d_PM_endsAt_14 (by decide) ?_
    obtain rfl := Option.some.inj h
    exact e_zret hX hr hlk hWd (Or.inr rfl) d_PM_endsAt_18
set_option maxHeartbeats 4000000 in
set_option maxRecDepth 100000 in
theorem w_PM_endOfChild_3 {p : Program} {l : Launch} {e : Env} {s : State} {m : MethodId} {args : Array Value} {below : List Frame} {meth : Method} {c : Code} {E : En} {K G : Nat → Nat} {L : List Nat} (hX : CallFix p m c b_PM_endOfChild 6 s args w_PM_endOfChild "NibbleTrie$PathMap") (hr : meth.sig.returnType = (some .int)) (hlk : meth.locks = false) {out : Int32} : ∀ (n : Nat) (v0 : Nat) (v2 : Int32) (v3 : Int32) (v4 : Int32) (v5 : Int32) (M : Mm) (H : Heap) (locs : List Loc) (ls : Array Slot), K v0 = 7 → lv_has ls 6 [(0, .ref v0), (2, .int v2), (3, .int v3), (4, .int v4), (5, .int v5)] → Wd E K G L M s.heap H locs s → f_PM_endOfChild_3 G n v0 v2 v3 v4 v5 M = some out → W p l e rm_PM_endOfChild s m args below meth c H locs 0 0 (MQ below (QI E K G L s.heap.size out M) args s 0 0 (AL L s.heap.size)) (F0 m 3 ls []) := by
  have hx := hX.1
  have hb := hX.2.1
  have hown := hX.2.2.2.1
  have hts := hX.2.2.2.2
  intro n
  induction n with
  | zero => intro _ _ _ _ _ _ _ _ _ _ _ _ h; rw [f_PM_endOfChild_3] at h; cases h
  | succ n ih =>
    intro v0 v2 v3 v4 v5 M H locs ls hv0 hl hWd h
    rw [f_PM_endOfChild_3] at h
    refine lv_iload hx hb d_PM_endOfChild_3 (lv_at hl 4 rfl) ?_
    refine lv_iload_n hx hb d_PM_endOfChild_5 rfl (lv_at hl 1 rfl) ?_
    refine lv_icmp_ge (tgt := 31) hx hb d_PM_endOfChild_6 (by decide) (fun hc => ?_) (fun hc => ?_)
    · replace h := ifP h hc
      refine lv_iload hx hb d_PM_endOfChild_31 (lv_at hl 4 rfl) ?_
      obtain rfl := Option.some.inj h
      exact e_iret hX hr hlk hWd d_PM_endOfChild_33
    · replace h := ifN h hc
      refine lv_aload_n hx hb d_PM_endOfChild_9 rfl (lv_at hl 0 rfl) ?_
      refine g_PM_paths hX t_29 hWd hv0 d_PM_endOfChild_10 ?_
      have q1 := v_PM_paths hWd hv0
      refine lv_iload hx hb d_PM_endOfChild_13 (lv_at hl 4 rfl) ?_
      obtain ⟨j2, hj2, h⟩ := ob h
      refine r_iald hX hWd q1 hj2 d_PM_endOfChild_15 ?_
      refine lv_iload_n hx hb d_PM_endOfChild_16 rfl (lv_at hl 2 rfl) ?_
      refine kp_i (va_runS (As := [.int (gi M (gr M v0 0) j2), .int v3]) (rest := []) hX (m_PA_nibble l  (gi M (gr M v0 0) j2) v3 rfl) (cb_PA_nibble hts t_202 ⟨Nat.le_of_ble_eq_true rfl, Nat.le_of_ble_eq_true rfl⟩) preEq rfl rfl hl.1 rfl (lv_room (Nat.le_of_ble_eq_true rfl)) d_PM_endOfChild_17 ⟨Nat.zero_le _, Nat.zero_le _⟩) ?_
      refine lv_iload hx hb d_PM_endOfChild_20 (lv_at hl 3 rfl) ?_
      refine lv_icmp_ne (tgt := 31) hx hb d_PM_endOfChild_22 (by decide) (fun hc => ?_) (fun hc => ?_)
      · replace h := ifN h hc
        refine lv_iload hx hb d_PM_endOfChild_31 (lv_at hl 4 rfl) ?_
        obtain rfl := Option.some.inj h
        exact e_iret hX hr hlk hWd d_PM_endOfChild_33
      · replace h := ifP h hc
        refine lv_iinc (k := 4) (v := (v5 + 1)) (lv' := [(5, .int (v5 + 1)), (0, .ref v0), (2, .int v2), (3, .int v3), (4, .int v4)]) hx hb d_PM_endOfChild_25 hl rfl (by rfl) (by decide) rfl (fun ls hl => ?_)
        refine lv_goto (tgt := 3) hx hb d_PM_endOfChild_28 (by decide) ?_
        exact ih v0 v2 v3 v4 (v5 + 1) M _ _ _ hv0 (lv_sub hl [1, 2, 3, 4, 0] rfl) hWd h
set_option maxHeartbeats 4000000 in
set_option maxRecDepth 100000 in
theorem m_PM_endOfChild (l : Launch) {E : En} {K G : Nat → Nat} {L : List Nat} {M : Mm} {sz : Nat} {out : Int32} (v0 : Nat) (v1 : Int32) (v2 : Int32) (v3 : Int32) (v4 : Int32) (hv0 : K v0 = 7) (h : f_PM_endOfChild G v0 v1 v2 v3 v4 M = some out) : Met l y_PM_endOfChild w_PM_endOfChild rm_PM_endOfChild (va_Pc [.ref v0, .int v1, .int v2, .int v3, .int v4] (Wp E K G L M sz)) (QI E K G L sz out M) 0 0 (AL L sz) := by
  refine Met.ofW (cc := b_PM_endOfChild) (maxL := 6) (ret := (some .int)) (by decide) rfl ?_
  intro p e s m av below meth c s₁ B hml hv
  obtain ⟨rfl, hWp⟩ := hv
  have hWd := Wd.start hWp
  obtain ⟨rfl, -⟩ := hWp
  have hX : CallFix p m c b_PM_endOfChild 6 s _ w_PM_endOfChild "NibbleTrie$PathMap" := ⟨B.exec, B.bytes, hml, findClass_of_methodNamed B.named, atoms_spec (ws := w_PM_endOfChild) B.pre⟩
  have hx := hX.1
  have hb := hX.2.1
  have hown := hX.2.2.2.1
  have hts := hX.2.2.2.2
  have hr := B.returns
  have hlk := B.notSynchronized
  have hl := lv_entry ([.ref v0, .int v1, .int v2, .int v3, .int v4]) (n := 6) (Nat.le_of_ble_eq_true rfl)
  rw [lg_entry_eq]
  generalize (lg_sl ([.ref v0, .int v1, .int v2, .int v3, .int v4]) ++ List.replicate (6 - (lg_sl ([.ref v0, .int v1, .int v2, .int v3, .int v4])).length) Slot.unset).toArray = ls at hl ⊢
  have hl : lv_has ls 6 [(0, .ref v0), (1, .int v1), (2, .int v2), (3, .int v3), (4, .int v4)] := hl
  unfold f_PM_endOfChild at h
  refine lv_iload_n hx hb d_PM_endOfChild_0 rfl (lv_at hl 1 rfl) ?_
  refine lv_istore (lv' := [(5, .int v1), (0, .ref v0), (1, .int v1), (2, .int v2), (3, .int v3), (4, .int v4)]) hx hb d_PM_endOfChild_1 hl (by decide) rfl (fun ls hl => ?_)
  exact w_PM_endOfChild_3 hX hr hlk FU v0 v2 v3 v4 v1 M _ _ _ hv0 (lv_sub hl [1, 3, 4, 5, 0] rfl) hWd h
