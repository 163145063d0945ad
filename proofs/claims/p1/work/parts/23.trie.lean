/-! the walks of these methods, by program out of the bytecode -/
set_option maxHeartbeats 4000000 in
set_option maxRecDepth 100000 in
theorem m_TR_firstChildRow (l : Launch) {E : En} {K G : Nat → Nat} {L : List Nat} {M : Mm} {sz : Nat} {out : Int32} (v0 : Nat) (v1 : Int32) (v2 : Int32) (hv0 : K v0 = 6) (h : f_TR_firstChildRow G v0 v1 v2 M = some out) : Met l y_TR_firstChildRow w_TR_firstChildRow rm_TR_firstChildRow (va_Pc [.ref v0, .int v1, .int v2] (Wp E K G L M sz)) (QI E K G L sz out M) 0 0 (AL L sz) := by
  refine Met.ofW (cc := b_TR_firstChildRow) (maxL := 3) (ret := (some .int)) (by decide) rfl ?_
  intro p e s m av below meth c s₁ B hml hv
  obtain ⟨rfl, hWp⟩ := hv
  have hWd := Wd.start hWp
  obtain ⟨rfl, -⟩ := hWp
  have hX : CallFix p m c b_TR_firstChildRow 3 s _ w_TR_firstChildRow "NibbleTrie$Trie" := ⟨B.exec, B.bytes, hml, findClass_of_methodNamed B.named, atoms_spec (ws := w_TR_firstChildRow) B.pre⟩
  have hx := hX.1
  have hb := hX.2.1
  have hown := hX.2.2.2.1
  have hts := hX.2.2.2.2
  have hr := B.returns
  have hlk := B.notSynchronized
  have hl := lv_entry ([.ref v0, .int v1, .int v2]) (n := 3) (Nat.le_of_ble_eq_true rfl)
  rw [lg_entry_eq]
  generalize (lg_sl ([.ref v0, .int v1, .int v2]) ++ List.replicate (3 - (lg_sl ([.ref v0, .int v1, .int v2])).length) Slot.unset).toArray = ls at hl ⊢
  have hl : lv_has ls 3 [(0, .ref v0), (1, .int v1), (2, .int v2)] := hl
  unfold f_TR_firstChildRow at h
  refine lv_aload_n hx hb d_TR_firstChildRow_0 rfl (lv_at hl 0 rfl) ?_
  refine g_TR_map hX t_46 hWd hv0 d_TR_firstChildRow_1 ?_
  have q1 := v_TR_map hWd hv0
  refine lv_iload_n hx hb d_TR_firstChildRow_4 rfl (lv_at hl 1 rfl) ?_
  refine lv_iload_n hx hb d_TR_firstChildRow_5 rfl (lv_at hl 2 rfl) ?_
  obtain ⟨q2, hq2, h⟩ := ob h
  refine kc_z (va_runV (As := [.int v1, .int v2]) (rest := []) hX (m_PM_endsAt l  (gr M v0 0) v1 v2 q1 hq2) (cb_PM_endsAt hts t_193 ⟨Nat.le_of_ble_eq_true rfl, Nat.le_of_ble_eq_true rfl⟩) (pv_PM hWd q1) rfl rfl hl.1 rfl (lv_room (Nat.le_of_ble_eq_true rfl)) d_TR_firstChildRow_6 ⟨Nat.zero_le _, Nat.zero_le _⟩) hWd (fun z3 H locs hWd => ?_)
  refine lv_if_eq (tgt := 18) hx hb d_TR_firstChildRow_9 (by decide) (fun hc => ?_) (fun hc => ?_)
  · replace h := ifP h hc
    refine lv_iload_n hx hb d_TR_firstChildRow_18 rfl (lv_at hl 1 rfl) ?_
    obtain rfl := Option.some.inj h
    exact e_iret hX hr hlk hWd d_TR_firstChildRow_19
  · replace h := ifN h hc
    refine lv_iload_n hx hb d_TR_firstChildRow_12 rfl (lv_at hl 1 rfl) ?_
    refine lv_iconst (v := 1) hx hb d_TR_firstChildRow_13 (by decide) ?_
    refine lv_iadd hx hb d_TR_firstChildRow_14 ?_
    refine lv_goto (tgt := 19) hx hb d_TR_firstChildRow_15 (by decide) ?_
    obtain rfl := Option.some.inj h
    exact e_iret hX hr hlk hWd d_TR_firstChildRow_19
set_option maxHeartbeats 4000000 in
set_option maxRecDepth 100000 in
theorem w_TR_listBranch_75 {p : Program} {l : Launch} {e : Env} {s : State} {m : MethodId} {args : Array Value} {below : List Frame} {meth : Method} {c : Code} {E : En} {K G : Nat → Nat} {L : List Nat} (hX : CallFix p m c b_TR_listBranch 9 s args w_TR_listBranch "NibbleTrie$Trie") (hr : meth.sig.returnType = none) (hlk : meth.locks = false) {out : Mm} {rc : Nat → Int32 → Int32 → Int32 → Int32 → Mm → Option (Mm)} {d : Nat} (hrc : ∀ {M : Mm} {sz : Nat} {out : Mm} (v0 : Nat) (v1 : Int32) (v2 : Int32) (v3 : Int32) (v4 : Int32), K v0 = 6 → rc v0 v1 v2 v3 v4 M = some out → Met l y_TR_listPart w_TR_listPart (rm_TR_listPart d) (va_Pc [.ref v0, .int v1, .int v2, .int v3, .int v4] (Wp E K G L M sz)) (QV E K G L sz out) 0 0 (AL L sz)) : ∀ (n : Nat) (v0 : Nat) (v2 : Int32) (v3 : Int32) (v5 : Int32) (v6 : Int32) (v7 : Int32) (M : Mm) (H : Heap) (locs : List Loc) (ls : Array Slot), K v0 = 6 → lv_has ls 9 [(0, .ref v0), (2, .int v2), (3, .int v3), (5, .int v5), (6, .int v6), (7, .int v7)] → Wd E K G L M s.heap H locs s → f_TR_listBranch_75 rc G n v0 v2 v3 v5 v6 v7 M = some out → W p l e (rm_TR_listBranch d) s m args below meth c H locs 0 0 (MQ below (QV E K G L s.heap.size out) args s 0 0 (AL L s.heap.size)) (F0 m 75 ls []) := by
  have hx := hX.1
  have hb := hX.2.1
  have hown := hX.2.2.2.1
  have hts := hX.2.2.2.2
  intro n
  induction n with
  | zero => intro _ _ _ _ _ _ _ _ _ _ _ _ _ h; rw [f_TR_listBranch_75] at h; cases h
  | succ n ih =>
    intro v0 v2 v3 v5 v6 v7 M H locs ls hv0 hl hWd h
    rw [f_TR_listBranch_75] at h
    refine lv_iload hx hb d_TR_listBranch_75 (lv_at hl 5 rfl) ?_
    refine lv_bipush (v := 16) hx hb d_TR_listBranch_77 (by decide) ?_
    refine lv_icmp_ge (tgt := 120) hx hb d_TR_listBranch_79 (by decide) (fun hc => ?_) (fun hc => ?_)
    · replace h := ifP h hc
      obtain rfl := Option.some.inj h
      exact e_vret hX hr hlk hWd d_TR_listBranch_120
    · replace h := ifN h hc
      refine lv_iload hx hb d_TR_listBranch_82 (lv_at hl 4 rfl) ?_
      refine lv_istore (lv' := [(8, .int v6), (0, .ref v0), (2, .int v2), (3, .int v3), (5, .int v5), (6, .int v6), (7, .int v7)]) hx hb d_TR_listBranch_84 hl (by decide) rfl (fun ls hl => ?_)
      refine lv_aload_n hx hb d_TR_listBranch_86 rfl (lv_at hl 1 rfl) ?_
      refine g_TR_map hX t_46 hWd hv0 d_TR_listBranch_87 ?_
      have q1 := v_TR_map hWd hv0
      refine lv_iload hx hb d_TR_listBranch_90 (lv_at hl 0 rfl) ?_
      refine lv_iload_n hx hb d_TR_listBranch_92 rfl (lv_at hl 2 rfl) ?_
      refine lv_iload_n hx hb d_TR_listBranch_93 rfl (lv_at hl 3 rfl) ?_
      refine lv_iload hx hb d_TR_listBranch_94 (lv_at hl 6 rfl) ?_
      obtain ⟨q2, hq2, h⟩ := ob h
      refine kc_i (va_runV (As := [.int v6, .int v2, .int v3, .int v7]) (rest := []) hX (m_PM_endOfChild l  (gr M v0 0) v6 v2 v3 v7 q1 hq2) (cb_PM_endOfChild hts t_198 ⟨by simp only [headSpec, rm_TR_listBranch, rm_PM_endOfChild, RD]; omega, by simp only [headSpec, rm_TR_listBranch, rm_PM_endOfChild, RD]; omega⟩) (pv_PM hWd q1) rfl rfl hl.1 rfl (lv_room (Nat.le_of_ble_eq_true rfl)) d_TR_listBranch_96 ⟨Nat.zero_le _, Nat.zero_le _⟩) hWd (fun H locs hWd => ?_)
      refine lv_istore (lv' := [(6, .int q2), (8, .int v6), (0, .ref v0), (2, .int v2), (3, .int v3), (5, .int v5), (7, .int v7)]) hx hb d_TR_listBranch_99 hl (by decide) rfl (fun ls hl => ?_)
      refine lv_aload_n hx hb d_TR_listBranch_101 rfl (lv_at hl 2 rfl) ?_
      refine lv_iload hx hb d_TR_listBranch_102 (lv_at hl 1 rfl) ?_
      refine lv_iload hx hb d_TR_listBranch_104 (lv_at hl 0 rfl) ?_
      refine lv_iload_n hx hb d_TR_listBranch_106 rfl (lv_at hl 4 rfl) ?_
      refine lv_iconst (v := 1) hx hb d_TR_listBranch_107 (by decide) ?_
      refine lv_iadd hx hb d_TR_listBranch_108 ?_
      refine lv_iload hx hb d_TR_listBranch_109 (lv_at hl 5 rfl) ?_
      obtain ⟨q3, hq3, h⟩ := ob h
      refine kc_v (va_runV (As := [.int v6, .int q2, .int (v3 + 1), .int v5]) (rest := []) hX (hrc v0 v6 q2 (v3 + 1) v5 hv0 hq3) (cb_TR_listPart hts t_174 ⟨by simp only [headSpec, rm_TR_listBranch, rm_TR_listPart, RD]; omega, by simp only [headSpec, rm_TR_listBranch, rm_TR_listPart, RD]; omega⟩) (pv_TR hWd hv0) rfl rfl hl.1 rfl (lv_room (Nat.le_of_ble_eq_true rfl)) d_TR_listBranch_111 ⟨Nat.zero_le _, Nat.zero_le _⟩) hWd (fun H locs hWd => ?_)
      refine lv_iinc (k := 6) (v := (v7 + 1)) (lv' := [(7, .int (v7 + 1)), (6, .int q2), (8, .int v6), (0, .ref v0), (2, .int v2), (3, .int v3), (5, .int v5)]) hx hb d_TR_listBranch_114 hl rfl (by rfl) (by decide) rfl (fun ls hl => ?_)
      refine lv_goto (tgt := 75) hx hb d_TR_listBranch_117 (by decide) ?_
      exact ih v0 v2 v3 v5 q2 (v7 + 1) q3 _ _ _ hv0 (lv_sub hl [3, 4, 5, 6, 1, 0] rfl) hWd h
set_option maxHeartbeats 4000000 in
set_option maxRecDepth 100000 in
theorem m_TR_listBranch (l : Launch) {E : En} {K G : Nat → Nat} {L : List Nat} {M : Mm} {sz : Nat} {out : Mm} {rc : Nat → Int32 → Int32 → Int32 → Int32 → Mm → Option (Mm)} {d : Nat} (hrc : ∀ {M : Mm} {sz : Nat} {out : Mm} (v0 : Nat) (v1 : Int32) (v2 : Int32) (v3 : Int32) (v4 : Int32), K v0 = 6 → rc v0 v1 v2 v3 v4 M = some out → Met l y_TR_listPart w_TR_listPart (rm_TR_listPart d) (va_Pc [.ref v0, .int v1, .int v2, .int v3, .int v4] (Wp E K G L M sz)) (QV E K G L sz out) 0 0 (AL L sz)) (v0 : Nat) (v1 : Int32) (v2 : Int32) (v3 : Int32) (v4 : Int32) (hv0 : K v0 = 6) (h : f_TR_listBranch rc G v0 v1 v2 v3 v4 M = some out) : Met l y_TR_listBranch w_TR_listBranch (rm_TR_listBranch d) (va_Pc [.ref v0, .int v1, .int v2, .int v3, .int v4] (Wp E K G L M sz)) (QV E K G L sz out) 0 0 (AL L sz) := by
  refine Met.ofW (cc := b_TR_listBranch) (maxL := 9) (ret := none) (by decide) rfl ?_
  intro p e s m av below meth c s₁ B hml hv
  obtain ⟨rfl, hWp⟩ := hv
  have hWd := Wd.start hWp
  obtain ⟨rfl, -⟩ := hWp
  have hX : CallFix p m c b_TR_listBranch 9 s _ w_TR_listBranch "NibbleTrie$Trie" := ⟨B.exec, B.bytes, hml, findClass_of_methodNamed B.named, atoms_spec (ws := w_TR_listBranch) B.pre⟩
  have hx := hX.1
  have hb := hX.2.1
  have hown := hX.2.2.2.1
  have hts := hX.2.2.2.2
  have hr := B.returns
  have hlk := B.notSynchronized
  have hl := lv_entry ([.ref v0, .int v1, .int v2, .int v3, .int v4]) (n := 9) (Nat.le_of_ble_eq_true rfl)
  rw [lg_entry_eq]
  generalize (lg_sl ([.ref v0, .int v1, .int v2, .int v3, .int v4]) ++ List.replicate (9 - (lg_sl ([.ref v0, .int v1, .int v2, .int v3, .int v4])).length) Slot.unset).toArray = ls at hl ⊢
  have hl : lv_has ls 9 [(0, .ref v0), (1, .int v1), (2, .int v2), (3, .int v3), (4, .int v4)] := hl
  unfold f_TR_listBranch at h
  refine lv_iload_n hx hb d_TR_listBranch_0 rfl (lv_at hl 3 rfl) ?_
  refine lv_iconst (v := 4) hx hb d_TR_listBranch_1 (by decide) ?_
  refine lv_icmp_ge (tgt := 14) hx hb d_TR_listBranch_2 (by decide) (fun hc => ?_) (fun hc => ?_)
  · replace h := ifP h hc
    obtain rfl := Option.some.inj h
    exact e_vret hX hr hlk hWd d_TR_listBranch_14
  · replace h := ifN h hc
    refine lv_aload_n hx hb d_TR_listBranch_5 rfl (lv_at hl 0 rfl) ?_
    refine g_TR_branches hX t_52 hWd hv0 d_TR_listBranch_6 ?_
    refine lv_bipush (v := 15) hx hb d_TR_listBranch_9 (by decide) ?_
    refine lv_icmp_ne (tgt := 15) hx hb d_TR_listBranch_11 (by decide) (fun hc => ?_) (fun hc => ?_)
    · replace h := ifN h hc
      refine lv_aload_n hx hb d_TR_listBranch_15 rfl (lv_at hl 0 rfl) ?_
      refine g_TR_branches hX t_52 hWd hv0 d_TR_listBranch_16 ?_
      refine lv_istore (lv' := [(5, .int (gi M v0 3)), (0, .ref v0), (1, .int v1), (2, .int v2), (3, .int v3), (4, .int v4)]) hx hb d_TR_listBranch_19 hl (by decide) rfl (fun ls hl => ?_)
      refine lv_aload_n hx hb d_TR_listBranch_21 rfl (lv_at hl 1 rfl) ?_
      refine lv_dup hx hb d_TR_listBranch_22 rfl ?_
      refine g_TR_branches hX t_52 hWd hv0 d_TR_listBranch_23 ?_
      refine lv_iconst (v := 1) hx hb d_TR_listBranch_26 (by decide) ?_
      refine lv_iadd hx hb d_TR_listBranch_27 ?_
      refine p_TR_branches hX t_52 hWd hv0 d_TR_listBranch_28 (fun H locs hWd => ?_)
      obtain ⟨M1, eM1, h⟩ := stE h
      rw [← eM1] at hWd
      refine lv_aload_n hx hb d_TR_listBranch_31 rfl (lv_at hl 1 rfl) ?_
      refine g_TR_firstRow hX t_56 hWd hv0 d_TR_listBranch_32 ?_
      have q2 := v_TR_firstRow hWd hv0
      refine lv_iload hx hb d_TR_listBranch_35 (lv_at hl 0 rfl) ?_
      refine lv_iload_n hx hb d_TR_listBranch_37 rfl (lv_at hl 2 rfl) ?_
      obtain ⟨j3, hj3, h⟩ := ob h
      refine r_iast hX hWd q2 hj3 d_TR_listBranch_38 (fun H locs hWd => ?_)
      obtain ⟨M4, eM4, h⟩ := stE h
      rw [← eM4] at hWd
      refine lv_aload_n hx hb d_TR_listBranch_39 rfl (lv_at hl 1 rfl) ?_
      refine g_TR_endRow hX t_57 hWd hv0 d_TR_listBranch_40 ?_
      have q5 := v_TR_endRow hWd hv0
      refine lv_iload hx hb d_TR_listBranch_43 (lv_at hl 0 rfl) ?_
      refine lv_iload_n hx hb d_TR_listBranch_45 rfl (lv_at hl 3 rfl) ?_
      obtain ⟨j6, hj6, h⟩ := ob h
      refine r_iast hX hWd q5 hj6 d_TR_listBranch_46 (fun H locs hWd => ?_)
      obtain ⟨M7, eM7, h⟩ := stE h
      rw [← eM7] at hWd
      refine lv_aload_n hx hb d_TR_listBranch_47 rfl (lv_at hl 1 rfl) ?_
      refine g_TR_depth hX t_58 hWd hv0 d_TR_listBranch_48 ?_
      have q8 := v_TR_depth hWd hv0
      refine lv_iload hx hb d_TR_listBranch_51 (lv_at hl 0 rfl) ?_
      refine lv_iload_n hx hb d_TR_listBranch_53 rfl (lv_at hl 4 rfl) ?_
      obtain ⟨j9, hj9, h⟩ := ob h
      refine r_iast hX hWd q8 hj9 d_TR_listBranch_54 (fun H locs hWd => ?_)
      obtain ⟨M10, eM10, h⟩ := stE h
      rw [← eM10] at hWd
      refine lv_aload_n hx hb d_TR_listBranch_55 rfl (lv_at hl 1 rfl) ?_
      refine g_TR_parent hX t_54 hWd hv0 d_TR_listBranch_56 ?_
      have q11 := v_TR_parent hWd hv0
      refine lv_iload hx hb d_TR_listBranch_59 (lv_at hl 0 rfl) ?_
      refine lv_iload hx hb d_TR_listBranch_61 (lv_at hl 5 rfl) ?_
      obtain ⟨j12, hj12, h⟩ := ob h
      refine r_iast hX hWd q11 hj12 d_TR_listBranch_63 (fun H locs hWd => ?_)
      obtain ⟨M13, eM13, h⟩ := stE h
      rw [← eM13] at hWd
      refine lv_aload_n hx hb d_TR_listBranch_64 rfl (lv_at hl 1 rfl) ?_
      refine lv_iload_n hx hb d_TR_listBranch_65 rfl (lv_at hl 2 rfl) ?_
      refine lv_iload_n hx hb d_TR_listBranch_66 rfl (lv_at hl 4 rfl) ?_
      obtain ⟨q14, hq14, h⟩ := ob h
      refine kc_i (va_runV (As := [.int v1, .int v3]) (rest := []) hX (m_TR_firstChildRow l  v0 v1 v3 hv0 hq14) (cb_TR_firstChildRow hts t_189 ⟨by simp only [headSpec, rm_TR_listBranch, rm_TR_firstChildRow, RD]; omega, by simp only [headSpec, rm_TR_listBranch, rm_TR_firstChildRow, RD]; omega⟩) (pv_TR hWd hv0) rfl rfl hl.1 rfl (lv_room (Nat.le_of_ble_eq_true rfl)) d_TR_listBranch_67 ⟨Nat.zero_le _, Nat.zero_le _⟩) hWd (fun H locs hWd => ?_)
      refine lv_istore (lv' := [(6, .int q14), (5, .int (gi M v0 3)), (0, .ref v0), (1, .int v1), (2, .int v2), (3, .int v3), (4, .int v4)]) hx hb d_TR_listBranch_70 hl (by decide) rfl (fun ls hl => ?_)
      refine lv_iconst (v := 0) hx hb d_TR_listBranch_72 (by decide) ?_
      refine lv_istore (lv' := [(7, .int 0), (6, .int q14), (5, .int (gi M v0 3)), (0, .ref v0), (1, .int v1), (2, .int v2), (3, .int v3), (4, .int v4)]) hx hb d_TR_listBranch_73 hl (by decide) rfl (fun ls hl => ?_)
      exact w_TR_listBranch_75 hX hr hlk hrc FU v0 v2 v3 (gi M v0 3) q14 0 M13 _ _ _ hv0 (lv_sub hl [3, 5, 6, 2, 1, 0] rfl) hWd h
    · replace h := ifP h hc
      obtain rfl := Option.some.inj h
      exact e_vret hX hr hlk hWd d_TR_listBranch_14
set_option maxHeartbeats 4000000 in
set_option maxRecDepth 100000 in
theorem m_TR_listPart (l : Launch) {E : En} {K G : Nat → Nat} {L : List Nat} {M : Mm} {sz : Nat} {out : Mm} {rc : Nat → Int32 → Int32 → Int32 → Int32 → Mm → Option (Mm)} {d : Nat} (hrc : ∀ {M : Mm} {sz : Nat} {out : Mm} (v0 : Nat) (v1 : Int32) (v2 : Int32) (v3 : Int32) (v4 : Int32), K v0 = 6 → rc v0 v1 v2 v3 v4 M = some out → Met l y_TR_listPart w_TR_listPart (rm_TR_listPart d) (va_Pc [.ref v0, .int v1, .int v2, .int v3, .int v4] (Wp E K G L M sz)) (QV E K G L sz out) 0 0 (AL L sz)) (v0 : Nat) (v1 : Int32) (v2 : Int32) (v3 : Int32) (v4 : Int32) (hv0 : K v0 = 6) (h : f_TR_listPart rc G v0 v1 v2 v3 v4 M = some out) : Met l y_TR_listPart w_TR_listPart (rm_TR_listPart (d + 1)) (va_Pc [.ref v0, .int v1, .int v2, .int v3, .int v4] (Wp E K G L M sz)) (QV E K G L sz out) 0 0 (AL L sz) := by
  refine Met.ofW (cc := b_TR_listPart) (maxL := 6) (ret := none) (by decide) rfl ?_
  intro p e s m av below meth c s₁ B hml hv
  obtain ⟨rfl, hWp⟩ := hv
  have hWd := Wd.start hWp
  obtain ⟨rfl, -⟩ := hWp
  have hX : CallFix p m c b_TR_listPart 6 s _ w_TR_listPart "NibbleTrie$Trie" := ⟨B.exec, B.bytes, hml, findClass_of_methodNamed B.named, atoms_spec (ws := w_TR_listPart) B.pre⟩
  have hx := hX.1
  have hb := hX.2.1
  have hown := hX.2.2.2.1
  have hts := hX.2.2.2.2
  have hr := B.returns
  have hlk := B.notSynchronized
  have hl := lv_entry ([.ref v0, .int v1, .int v2, .int v3, .int v4]) (n := 6) (Nat.le_of_ble_eq_true rfl)
  rw [lg_entry_eq]
  generalize (lg_sl ([.ref v0, .int v1, .int v2, .int v3, .int v4]) ++ List.replicate (6 - (lg_sl ([.ref v0, .int v1, .int v2, .int v3, .int v4])).length) Slot.unset).toArray = ls at hl ⊢
  have hl : lv_has ls 6 [(0, .ref v0), (1, .int v1), (2, .int v2), (3, .int v3), (4, .int v4)] := hl
  unfold f_TR_listPart at h
  refine lv_iload_n hx hb d_TR_listPart_0 rfl (lv_at hl 1 rfl) ?_
  refine lv_iload_n hx hb d_TR_listPart_1 rfl (lv_at hl 2 rfl) ?_
  refine lv_icmp_ne (tgt := 6) hx hb d_TR_listPart_2 (by decide) (fun hc => ?_) (fun hc => ?_)
  · replace h := ifN h hc
    refine lv_iload_n hx hb d_TR_listPart_6 rfl (lv_at hl 2 rfl) ?_
    refine lv_iload_n hx hb d_TR_listPart_7 rfl (lv_at hl 1 rfl) ?_
    refine lv_isub hx hb d_TR_listPart_8 ?_
    refine lv_iconst (v := 1) hx hb d_TR_listPart_9 (by decide) ?_
    refine lv_icmp_ne (tgt := 24) hx hb d_TR_listPart_10 (by decide) (fun hc => ?_) (fun hc => ?_)
    · replace h := ifN h hc
      refine lv_aload_n hx hb d_TR_listPart_24 rfl (lv_at hl 0 rfl) ?_
      refine g_TR_map hX t_46 hWd hv0 d_TR_listPart_25 ?_
      have q1 := v_TR_map hWd hv0
      refine g_PM_paths hX t_30 hWd q1 d_TR_listPart_28 ?_
      have q2 := v_PM_paths hWd q1
      refine lv_iload_n hx hb d_TR_listPart_31 rfl (lv_at hl 1 rfl) ?_
      obtain ⟨j3, hj3, h⟩ := ob h
      refine r_iald hX hWd q2 hj3 d_TR_listPart_32 ?_
      refine lv_aload_n hx hb d_TR_listPart_33 rfl (lv_at hl 0 rfl) ?_
      refine g_TR_map hX t_46 hWd hv0 d_TR_listPart_34 ?_
      have q4 := v_TR_map hWd hv0
      refine g_PM_paths hX t_30 hWd q4 d_TR_listPart_37 ?_
      have q5 := v_PM_paths hWd q4
      refine lv_iload_n hx hb d_TR_listPart_40 rfl (lv_at hl 2 rfl) ?_
      refine lv_iconst (v := 1) hx hb d_TR_listPart_41 (by decide) ?_
      refine lv_isub hx hb d_TR_listPart_42 ?_
      obtain ⟨j6, hj6, h⟩ := ob h
      refine r_iald hX hWd q5 hj6 d_TR_listPart_43 ?_
      obtain ⟨q7, hq7, h⟩ := ob h
      refine kp_i (va_runS (As := [.int (gi M (gr M (gr M v0 0) 0) j3), .int (gi M (gr M (gr M v0 0) 0) j6)]) (rest := []) hX (m_PA_commonLength l  (gi M (gr M (gr M v0 0) 0) j3) (gi M (gr M (gr M v0 0) 0) j6) hq7) (cb_PA_commonLength hts t_178 ⟨by simp only [headSpec, rm_TR_listPart, rm_PA_commonLength, RD]; omega, by simp only [headSpec, rm_TR_listPart, rm_PA_commonLength, RD]; omega⟩) preEq rfl rfl hl.1 rfl (lv_room (Nat.le_of_ble_eq_true rfl)) d_TR_listPart_44 ⟨Nat.zero_le _, Nat.zero_le _⟩) ?_
      refine lv_istore (lv' := [(5, .int q7), (0, .ref v0), (1, .int v1), (2, .int v2), (3, .int v3), (4, .int v4)]) hx hb d_TR_listPart_47 hl (by decide) rfl (fun ls hl => ?_)
      refine lv_iload hx hb d_TR_listPart_49 (lv_at hl 0 rfl) ?_
      refine lv_iload_n hx hb d_TR_listPart_51 rfl (lv_at hl 4 rfl) ?_
      refine lv_icmp_le (tgt := 65) hx hb d_TR_listPart_52 (by decide) (fun hc => ?_) (fun hc => ?_)
      · replace h := ifP h hc
        refine lv_aload_n hx hb d_TR_listPart_65 rfl (lv_at hl 1 rfl) ?_
        refine lv_iload_n hx hb d_TR_listPart_66 rfl (lv_at hl 2 rfl) ?_
        refine lv_iload_n hx hb d_TR_listPart_67 rfl (lv_at hl 3 rfl) ?_
        refine lv_iload hx hb d_TR_listPart_68 (lv_at hl 0 rfl) ?_
        refine lv_iload hx hb d_TR_listPart_70 (lv_at hl 5 rfl) ?_
        obtain ⟨q8, hq8, h⟩ := ob h
        refine kc_v (va_runV (As := [.int v1, .int v2, .int q7, .int v4]) (rest := []) hX (m_TR_listBranch l hrc  v0 v1 v2 q7 v4 hv0 hq8) (cb_TR_listBranch hts t_185 ⟨by simp only [headSpec, rm_TR_listPart, rm_TR_listBranch, RD]; omega, by simp only [headSpec, rm_TR_listPart, rm_TR_listBranch, RD]; omega⟩) (pv_TR hWd hv0) rfl rfl hl.1 rfl (lv_room (Nat.le_of_ble_eq_true rfl)) d_TR_listPart_72 ⟨Nat.zero_le _, Nat.zero_le _⟩) hWd (fun H locs hWd => ?_)
        obtain rfl := Option.some.inj h
        exact e_vret hX hr hlk hWd d_TR_listPart_75
      · replace h := ifN h hc
        refine lv_aload_n hx hb d_TR_listPart_55 rfl (lv_at hl 1 rfl) ?_
        refine lv_dup hx hb d_TR_listPart_56 rfl ?_
        refine g_TR_extensions hX t_50 hWd hv0 d_TR_listPart_57 ?_
        refine lv_iconst (v := 1) hx hb d_TR_listPart_60 (by decide) ?_
        refine lv_iadd hx hb d_TR_listPart_61 ?_
        refine p_TR_extensions hX t_50 hWd hv0 d_TR_listPart_62 (fun H locs hWd => ?_)
        obtain ⟨M9, eM9, h⟩ := stE h
        rw [← eM9] at hWd
        refine lv_aload_n hx hb d_TR_listPart_65 rfl (lv_at hl 1 rfl) ?_
        refine lv_iload_n hx hb d_TR_listPart_66 rfl (lv_at hl 2 rfl) ?_
        refine lv_iload_n hx hb d_TR_listPart_67 rfl (lv_at hl 3 rfl) ?_
        refine lv_iload hx hb d_TR_listPart_68 (lv_at hl 0 rfl) ?_
        refine lv_iload hx hb d_TR_listPart_70 (lv_at hl 5 rfl) ?_
        obtain ⟨q10, hq10, h⟩ := ob h
        refine kc_v (va_runV (As := [.int v1, .int v2, .int q7, .int v4]) (rest := []) hX (m_TR_listBranch l hrc  v0 v1 v2 q7 v4 hv0 hq10) (cb_TR_listBranch hts t_185 ⟨by simp only [headSpec, rm_TR_listPart, rm_TR_listBranch, RD]; omega, by simp only [headSpec, rm_TR_listPart, rm_TR_listBranch, RD]; omega⟩) (pv_TR hWd hv0) rfl rfl hl.1 rfl (lv_room (Nat.le_of_ble_eq_true rfl)) d_TR_listPart_72 ⟨Nat.zero_le _, Nat.zero_le _⟩) hWd (fun H locs hWd => ?_)
        obtain rfl := Option.some.inj h
        exact e_vret hX hr hlk hWd d_TR_listPart_75
    · replace h := ifP h hc
      refine lv_aload_n hx hb d_TR_listPart_13 rfl (lv_at hl 0 rfl) ?_
      refine lv_dup hx hb d_TR_listPart_14 rfl ?_
      refine g_TR_leaves hX t_48 hWd hv0 d_TR_listPart_15 ?_
      refine lv_iconst (v := 1) hx hb d_TR_listPart_18 (by decide) ?_
      refine lv_iadd hx hb d_TR_listPart_19 ?_
      refine p_TR_leaves hX t_48 hWd hv0 d_TR_listPart_20 (fun H locs hWd => ?_)
      obtain ⟨M11, eM11, h⟩ := stE h
      rw [← eM11] at hWd
      obtain rfl := Option.some.inj h
      exact e_vret hX hr hlk hWd d_TR_listPart_23
  · replace h := ifP h hc
    obtain rfl := Option.some.inj h
    exact e_vret hX hr hlk hWd d_TR_listPart_5
set_option maxHeartbeats 4000000 in
set_option maxRecDepth 100000 in
theorem M_TR_listPart (l : Launch) {E : En} {K G : Nat → Nat} {L : List Nat} : ∀ (d : Nat), ∀ {M : Mm} {sz : Nat} {out : Mm} (v0 : Nat) (v1 : Int32) (v2 : Int32) (v3 : Int32) (v4 : Int32), K v0 = 6 → F_TR_listPart G d v0 v1 v2 v3 v4 M = some out → Met l y_TR_listPart w_TR_listPart (rm_TR_listPart d) (va_Pc [.ref v0, .int v1, .int v2, .int v3, .int v4] (Wp E K G L M sz)) (QV E K G L sz out) 0 0 (AL L sz) := by
  intro d
  induction d with
  | zero => intro _ _ _ _ _ _ _ _ _ h; rw [F_TR_listPart] at h; cases h
  | succ d ih =>
    intro M sz out v0 v1 v2 v3 v4 hv0 h
    rw [F_TR_listPart] at h
    exact m_TR_listPart l ih v0 v1 v2 v3 v4 hv0 h
set_option maxHeartbeats 4000000 in
set_option maxRecDepth 100000 in
theorem m_TR_list (l : Launch) {E : En} {K G : Nat → Nat} {L : List Nat} {M : Mm} {sz : Nat} {out : Mm} (v0 : Nat) (hv0 : K v0 = 6) (h : f_TR_list G v0 M = some out) : Met l y_TR_list w_TR_list rm_TR_list (va_Pc [.ref v0] (Wp E K G L M sz)) (QV E K G L sz out) 0 0 (AL L sz) := by
  refine Met.ofW (cc := b_TR_list) (maxL := 1) (ret := none) (by decide) rfl ?_
  intro p e s m av below meth c s₁ B hml hv
  obtain ⟨rfl, hWp⟩ := hv
  have hWd := Wd.start hWp
  obtain ⟨rfl, -⟩ := hWp
  have hX : CallFix p m c b_TR_list 1 s _ w_TR_list "NibbleTrie$Trie" := ⟨B.exec, B.bytes, hml, findClass_of_methodNamed B.named, atoms_spec (ws := w_TR_list) B.pre⟩
  have hx := hX.1
  have hb := hX.2.1
  have hown := hX.2.2.2.1
  have hts := hX.2.2.2.2
  have hr := B.returns
  have hlk := B.notSynchronized
  have hl := lv_entry ([.ref v0]) (n := 1) (Nat.le_of_ble_eq_true rfl)
  rw [lg_entry_eq]
  generalize (lg_sl ([.ref v0]) ++ List.replicate (1 - (lg_sl ([.ref v0])).length) Slot.unset).toArray = ls at hl ⊢
  have hl : lv_has ls 1 [(0, .ref v0)] := hl
  unfold f_TR_list at h
  refine lv_aload_n hx hb d_TR_list_0 rfl (lv_at hl 0 rfl) ?_
  refine lv_iconst (v := 0) hx hb d_TR_list_1 (by decide) ?_
  refine p_TR_leaves hX t_48 hWd hv0 d_TR_list_2 (fun H locs hWd => ?_)
  obtain ⟨M1, eM1, h⟩ := stE h
  rw [← eM1] at hWd
  refine lv_aload_n hx hb d_TR_list_5 rfl (lv_at hl 0 rfl) ?_
  refine lv_iconst (v := 0) hx hb d_TR_list_6 (by decide) ?_
  refine p_TR_extensions hX t_50 hWd hv0 d_TR_list_7 (fun H locs hWd => ?_)
  obtain ⟨M2, eM2, h⟩ := stE h
  rw [← eM2] at hWd
  refine lv_aload_n hx hb d_TR_list_10 rfl (lv_at hl 0 rfl) ?_
  refine lv_iconst (v := 0) hx hb d_TR_list_11 (by decide) ?_
  refine p_TR_branches hX t_52 hWd hv0 d_TR_list_12 (fun H locs hWd => ?_)
  obtain ⟨M3, eM3, h⟩ := stE h
  rw [← eM3] at hWd
  refine lv_aload_n hx hb d_TR_list_15 rfl (lv_at hl 0 rfl) ?_
  refine lv_iconst (v := 0) hx hb d_TR_list_16 (by decide) ?_
  refine lv_aload_n hx hb d_TR_list_17 rfl (lv_at hl 0 rfl) ?_
  refine g_TR_map hX t_46 hWd hv0 d_TR_list_18 ?_
  have q4 := v_TR_map hWd hv0
  refine g_PM_rows hX t_35 hWd q4 d_TR_list_21 ?_
  refine lv_iconst (v := 0) hx hb d_TR_list_24 (by decide) ?_
  refine lv_iconst (v := (-1)) hx hb d_TR_list_25 (by decide) ?_
  obtain ⟨q5, hq5, h⟩ := ob h
  refine kc_v (va_runV (As := [.int 0, .int (gi M3 (gr M3 v0 0) 2), .int 0, .int (-1)]) (rest := []) hX (M_TR_listPart l RD v0 0 (gi M3 (gr M3 v0 0) 2) 0 (-1) hv0 hq5) (cb_TR_listPart hts t_174 ⟨by simp only [headSpec, rm_TR_list, rm_TR_listPart, RD]; omega, by simp only [headSpec, rm_TR_list, rm_TR_listPart, RD]; omega⟩) (pv_TR hWd hv0) rfl rfl hl.1 rfl (lv_room (Nat.le_of_ble_eq_true rfl)) d_TR_list_26 ⟨Nat.zero_le _, Nat.zero_le _⟩) hWd (fun H locs hWd => ?_)
  obtain rfl := Option.some.inj h
  exact e_vret hX hr hlk hWd d_TR_list_29
set_option maxHeartbeats 4000000 in
set_option maxRecDepth 100000 in
theorem m_TR_change (l : Launch) {E : En} {K G : Nat → Nat} {L : List Nat} {M : Mm} {sz : Nat} {out : Int32 × Mm} (v0 : Nat) (v1 : Int32) (v2 : Int32) (hv0 : K v0 = 6) (h : f_TR_change G v0 v1 v2 M = some out) : Met l y_TR_change w_TR_change rm_TR_change (va_Pc [.ref v0, .int v1, .int v2] (Wp E K G L M sz)) (QI E K G L sz out.1 out.2) 0 0 (AL L sz) := by
  refine Met.ofW (cc := b_TR_change) (maxL := 5) (ret := (some .int)) (by decide) rfl ?_
  intro p e s m av below meth c s₁ B hml hv
  obtain ⟨rfl, hWp⟩ := hv
  have hWd := Wd.start hWp
  obtain ⟨rfl, -⟩ := hWp
  have hX : CallFix p m c b_TR_change 5 s _ w_TR_change "NibbleTrie$Trie" := ⟨B.exec, B.bytes, hml, findClass_of_methodNamed B.named, atoms_spec (ws := w_TR_change) B.pre⟩
  have hx := hX.1
  have hb := hX.2.1
  have hown := hX.2.2.2.1
  have hts := hX.2.2.2.2
  have hr := B.returns
  have hlk := B.notSynchronized
  have hl := lv_entry ([.ref v0, .int v1, .int v2]) (n := 5) (Nat.le_of_ble_eq_true rfl)
  rw [lg_entry_eq]
  generalize (lg_sl ([.ref v0, .int v1, .int v2]) ++ List.replicate (5 - (lg_sl ([.ref v0, .int v1, .int v2])).length) Slot.unset).toArray = ls at hl ⊢
  have hl : lv_has ls 5 [(0, .ref v0), (1, .int v1), (2, .int v2)] := hl
  unfold f_TR_change at h
  refine lv_aload_n hx hb d_TR_change_0 rfl (lv_at hl 0 rfl) ?_
  refine g_TR_map hX t_46 hWd hv0 d_TR_change_1 ?_
  have q1 := v_TR_map hWd hv0
  refine lv_iload_n hx hb d_TR_change_4 rfl (lv_at hl 1 rfl) ?_
  obtain ⟨q2, hq2, h⟩ := ob h
  refine kc_i (va_runV (As := [.int v1]) (rest := []) hX (m_PM_rowOf l  (gr M v0 0) v1 q1 hq2) (cb_PM_rowOf hts t_155 ⟨Nat.le_of_ble_eq_true rfl, Nat.le_of_ble_eq_true rfl⟩) (pv_PM hWd q1) rfl rfl hl.1 rfl (lv_room (Nat.le_of_ble_eq_true rfl)) d_TR_change_5 ⟨Nat.zero_le _, Nat.zero_le _⟩) hWd (fun H locs hWd => ?_)
  refine lv_istore_n (lv' := [(3, .int q2), (0, .ref v0), (1, .int v1), (2, .int v2)]) hx hb d_TR_change_8 rfl hl (by decide) rfl (fun ls hl => ?_)
  refine lv_iload_n hx hb d_TR_change_9 rfl (lv_at hl 0 rfl) ?_
  refine lv_iconst (v := (-1)) hx hb d_TR_change_10 (by decide) ?_
  refine lv_icmp_ne (tgt := 33) hx hb d_TR_change_11 (by decide) (fun hc => ?_) (fun hc => ?_)
  · replace h := ifN h hc
    refine lv_aload_n hx hb d_TR_change_33 rfl (lv_at hl 1 rfl) ?_
    refine g_TR_map hX t_46 hWd hv0 d_TR_change_34 ?_
    have q3 := v_TR_map hWd hv0
    refine g_PM_values hX t_32 hWd q3 d_TR_change_37 ?_
    have q4 := v_PM_values hWd q3
    refine lv_iload_n hx hb d_TR_change_40 rfl (lv_at hl 0 rfl) ?_
    obtain ⟨j5, hj5, h⟩ := ob h
    refine r_iald hX hWd q4 hj5 d_TR_change_41 ?_
    refine lv_topi (fun x6 ex6 => ?_)
    replace h := stA h ex6
    refine lv_istore (lv' := [(4, .int x6), (3, .int q2), (0, .ref v0), (1, .int v1), (2, .int v2)]) hx hb d_TR_change_42 hl (by decide) rfl (fun ls hl => ?_)
    refine lv_iload_n hx hb d_TR_change_44 rfl (lv_at hl 4 rfl) ?_
    refine lv_if_ne (tgt := 63) hx hb d_TR_change_45 (by decide) (fun hc => ?_) (fun hc => ?_)
    · replace h := ifN h hc
      refine lv_aload_n hx hb d_TR_change_63 rfl (lv_at hl 2 rfl) ?_
      refine g_TR_map hX t_46 hWd hv0 d_TR_change_64 ?_
      have q7 := v_TR_map hWd hv0
      refine g_PM_values hX t_32 hWd q7 d_TR_change_67 ?_
      have q8 := v_PM_values hWd q7
      refine lv_iload_n hx hb d_TR_change_70 rfl (lv_at hl 1 rfl) ?_
      refine lv_iload_n hx hb d_TR_change_71 rfl (lv_at hl 4 rfl) ?_
      obtain ⟨j9, hj9, h⟩ := ob h
      refine r_iast hX hWd q8 hj9 d_TR_change_72 (fun H locs hWd => ?_)
      obtain ⟨M10, eM10, h⟩ := stE h
      rw [← eM10] at hWd
      refine lv_iload hx hb d_TR_change_73 (lv_at hl 0 rfl) ?_
      obtain rfl := Option.some.inj h
      exact e_iret hX hr hlk hWd d_TR_change_75
    · replace h := ifP h hc
      refine lv_aload_n hx hb d_TR_change_48 rfl (lv_at hl 2 rfl) ?_
      refine g_TR_map hX t_46 hWd hv0 d_TR_change_49 ?_
      have q11 := v_TR_map hWd hv0
      refine lv_iload_n hx hb d_TR_change_52 rfl (lv_at hl 1 rfl) ?_
      obtain ⟨q12, hq12, h⟩ := ob h
      refine kc_v (va_runV (As := [.int q2]) (rest := []) hX (m_PM_remove l  (gr M v0 0) q2 q11 hq12) (cb_PM_remove hts t_203 ⟨Nat.le_of_ble_eq_true rfl, Nat.le_of_ble_eq_true rfl⟩) (pv_PM hWd q11) rfl rfl hl.1 rfl (lv_room (Nat.le_of_ble_eq_true rfl)) d_TR_change_53 ⟨Nat.zero_le _, Nat.zero_le _⟩) hWd (fun H locs hWd => ?_)
      refine lv_aload_n hx hb d_TR_change_56 rfl (lv_at hl 2 rfl) ?_
      obtain ⟨q13, hq13, h⟩ := ob h
      refine kc_v (va_runV (As := []) (rest := []) hX (m_TR_list l  v0 hv0 hq13) (cb_TR_list hts t_170 ⟨Nat.le_of_ble_eq_true rfl, Nat.le_of_ble_eq_true rfl⟩) (pv_TR hWd hv0) rfl rfl hl.1 rfl (lv_room (Nat.le_of_ble_eq_true rfl)) d_TR_change_57 ⟨Nat.zero_le _, Nat.zero_le _⟩) hWd (fun H locs hWd => ?_)
      refine lv_goto (tgt := 73) hx hb d_TR_change_60 (by decide) ?_
      refine lv_iload hx hb d_TR_change_73 (lv_at hl 0 rfl) ?_
      obtain rfl := Option.some.inj h
      exact e_iret hX hr hlk hWd d_TR_change_75
  · replace h := ifP h hc
    refine lv_iload_n hx hb d_TR_change_14 rfl (lv_at hl 3 rfl) ?_
    refine lv_if_eq (tgt := 31) hx hb d_TR_change_15 (by decide) (fun hc => ?_) (fun hc => ?_)
    · replace h := ifP h hc
      refine lv_iconst (v := 0) hx hb d_TR_change_31 (by decide) ?_
      obtain rfl := Option.some.inj h
      exact e_iret hX hr hlk hWd d_TR_change_32
    · replace h := ifN h hc
      refine lv_aload_n hx hb d_TR_change_18 rfl (lv_at hl 1 rfl) ?_
      refine g_TR_map hX t_46 hWd hv0 d_TR_change_19 ?_
      have q14 := v_TR_map hWd hv0
      refine lv_iload_n hx hb d_TR_change_22 rfl (lv_at hl 2 rfl) ?_
      refine lv_iload_n hx hb d_TR_change_23 rfl (lv_at hl 3 rfl) ?_
      obtain ⟨q15, hq15, h⟩ := ob h
      refine kc_v (va_runV (As := [.int v1, .int v2]) (rest := []) hX (m_PM_insert l  (gr M v0 0) v1 v2 q14 hq15) (cb_PM_insert hts t_159 ⟨Nat.le_of_ble_eq_true rfl, Nat.le_of_ble_eq_true rfl⟩) (pv_PM hWd q14) rfl rfl hl.1 rfl (lv_room (Nat.le_of_ble_eq_true rfl)) d_TR_change_24 ⟨Nat.zero_le _, Nat.zero_le _⟩) hWd (fun H locs hWd => ?_)
      refine lv_aload_n hx hb d_TR_change_27 rfl (lv_at hl 1 rfl) ?_
      obtain ⟨q16, hq16, h⟩ := ob h
      refine kc_v (va_runV (As := []) (rest := []) hX (m_TR_list l  v0 hv0 hq16) (cb_TR_list hts t_170 ⟨Nat.le_of_ble_eq_true rfl, Nat.le_of_ble_eq_true rfl⟩) (pv_TR hWd hv0) rfl rfl hl.1 rfl (lv_room (Nat.le_of_ble_eq_true rfl)) d_TR_change_28 ⟨Nat.zero_le _, Nat.zero_le _⟩) hWd (fun H locs hWd => ?_)
      refine lv_iconst (v := 0) hx hb d_TR_change_31 (by decide) ?_
      obtain rfl := Option.some.inj h
      exact e_iret hX hr hlk hWd d_TR_change_32
set_option maxHeartbeats 4000000 in
set_option maxRecDepth 100000 in
theorem m_TR_becomeLike (l : Launch) {E : En} {K G : Nat → Nat} {L : List Nat} {M : Mm} {sz : Nat} {out : Mm} (v0 : Nat) (v1 : Nat) (hv0 : K v0 = 6) (hv1 : K v1 = 6) (h : f_TR_becomeLike G v0 v1 M = some out) : Met l y_TR_becomeLike w_TR_becomeLike rm_TR_becomeLike (va_Pc [.ref v0, .ref v1] (Wp E K G L M sz)) (QV E K G L sz out) 0 0 (AL L sz) := by
  refine Met.ofW (cc := b_TR_becomeLike) (maxL := 2) (ret := none) (by decide) rfl ?_
  intro p e s m av below meth c s₁ B hml hv
  obtain ⟨rfl, hWp⟩ := hv
  have hWd := Wd.start hWp
  obtain ⟨rfl, -⟩ := hWp
  have hX : CallFix p m c b_TR_becomeLike 2 s _ w_TR_becomeLike "NibbleTrie$Trie" := ⟨B.exec, B.bytes, hml, findClass_of_methodNamed B.named, atoms_spec (ws := w_TR_becomeLike) B.pre⟩
  have hx := hX.1
  have hb := hX.2.1
  have hown := hX.2.2.2.1
  have hts := hX.2.2.2.2
  have hr := B.returns
  have hlk := B.notSynchronized
  have hl := lv_entry ([.ref v0, .ref v1]) (n := 2) (Nat.le_of_ble_eq_true rfl)
  rw [lg_entry_eq]
  generalize (lg_sl ([.ref v0, .ref v1]) ++ List.replicate (2 - (lg_sl ([.ref v0, .ref v1])).length) Slot.unset).toArray = ls at hl ⊢
  have hl : lv_has ls 2 [(0, .ref v0), (1, .ref v1)] := hl
  unfold f_TR_becomeLike at h
  refine lv_aload_n hx hb d_TR_becomeLike_0 rfl (lv_at hl 0 rfl) ?_
  refine g_TR_map hX t_46 hWd hv0 d_TR_becomeLike_1 ?_
  have q1 := v_TR_map hWd hv0
  refine lv_aload_n hx hb d_TR_becomeLike_4 rfl (lv_at hl 1 rfl) ?_
  refine g_TR_map hX t_46 hWd hv1 d_TR_becomeLike_5 ?_
  have q2 := v_TR_map hWd hv1
  obtain ⟨q3, hq3, h⟩ := ob h
  refine kc_v (va_runV (As := [.ref (gr M v1 0)]) (rest := []) hX (m_PM_copy l  (gr M v0 0) (gr M v1 0) q1 q2 hq3) (cb_PM_copy hts t_283 ⟨Nat.le_of_ble_eq_true rfl, Nat.le_of_ble_eq_true rfl⟩) (pv_PM hWd q1) rfl rfl hl.1 rfl (lv_room (Nat.le_of_ble_eq_true rfl)) d_TR_becomeLike_8 ⟨Nat.zero_le _, Nat.zero_le _⟩) hWd (fun H locs hWd => ?_)
  refine lv_aload_n hx hb d_TR_becomeLike_11 rfl (lv_at hl 0 rfl) ?_
  refine lv_aload_n hx hb d_TR_becomeLike_12 rfl (lv_at hl 1 rfl) ?_
  refine g_TR_leaves hX t_48 hWd hv1 d_TR_becomeLike_13 ?_
  refine p_TR_leaves hX t_48 hWd hv0 d_TR_becomeLike_16 (fun H locs hWd => ?_)
  obtain ⟨M4, eM4, h⟩ := stE h
  rw [← eM4] at hWd
  refine lv_aload_n hx hb d_TR_becomeLike_19 rfl (lv_at hl 0 rfl) ?_
  refine lv_aload_n hx hb d_TR_becomeLike_20 rfl (lv_at hl 1 rfl) ?_
  refine g_TR_extensions hX t_50 hWd hv1 d_TR_becomeLike_21 ?_
  refine p_TR_extensions hX t_50 hWd hv0 d_TR_becomeLike_24 (fun H locs hWd => ?_)
  obtain ⟨M5, eM5, h⟩ := stE h
  rw [← eM5] at hWd
  refine lv_aload_n hx hb d_TR_becomeLike_27 rfl (lv_at hl 0 rfl) ?_
  refine lv_aload_n hx hb d_TR_becomeLike_28 rfl (lv_at hl 1 rfl) ?_
  refine g_TR_branches hX t_52 hWd hv1 d_TR_becomeLike_29 ?_
  refine p_TR_branches hX t_52 hWd hv0 d_TR_becomeLike_32 (fun H locs hWd => ?_)
  obtain ⟨M6, eM6, h⟩ := stE h
  rw [← eM6] at hWd
  refine lv_aload_n hx hb d_TR_becomeLike_35 rfl (lv_at hl 1 rfl) ?_
  refine g_TR_parent hX t_54 hWd hv1 d_TR_becomeLike_36 ?_
  have q7 := v_TR_parent hWd hv1
  refine lv_iconst (v := 0) hx hb d_TR_becomeLike_39 (by decide) ?_
  refine lv_aload_n hx hb d_TR_becomeLike_40 rfl (lv_at hl 0 rfl) ?_
  refine g_TR_parent hX t_54 hWd hv0 d_TR_becomeLike_41 ?_
  have q8 := v_TR_parent hWd hv0
  refine lv_iconst (v := 0) hx hb d_TR_becomeLike_44 (by decide) ?_
  refine lv_aload_n hx hb d_TR_becomeLike_45 rfl (lv_at hl 0 rfl) ?_
  refine g_TR_branches hX t_52 hWd hv0 d_TR_becomeLike_46 ?_
  obtain ⟨M9, hM9, h⟩ := ob h
  refine r_copy hX t_290 hl.1 (Nat.le_of_ble_eq_true rfl) (Nat.le_of_ble_eq_true rfl) hWd q7 q8 hM9 d_TR_becomeLike_49 (fun H locs hWd => ?_)
  refine lv_aload_n hx hb d_TR_becomeLike_52 rfl (lv_at hl 1 rfl) ?_
  refine g_TR_firstRow hX t_56 hWd hv1 d_TR_becomeLike_53 ?_
  have q10 := v_TR_firstRow hWd hv1
  refine lv_iconst (v := 0) hx hb d_TR_becomeLike_56 (by decide) ?_
  refine lv_aload_n hx hb d_TR_becomeLike_57 rfl (lv_at hl 0 rfl) ?_
  refine g_TR_firstRow hX t_56 hWd hv0 d_TR_becomeLike_58 ?_
  have q11 := v_TR_firstRow hWd hv0
  refine lv_iconst (v := 0) hx hb d_TR_becomeLike_61 (by decide) ?_
  refine lv_aload_n hx hb d_TR_becomeLike_62 rfl (lv_at hl 0 rfl) ?_
  refine g_TR_branches hX t_52 hWd hv0 d_TR_becomeLike_63 ?_
  obtain ⟨M12, hM12, h⟩ := ob h
  refine r_copy hX t_290 hl.1 (Nat.le_of_ble_eq_true rfl) (Nat.le_of_ble_eq_true rfl) hWd q10 q11 hM12 d_TR_becomeLike_66 (fun H locs hWd => ?_)
  refine lv_aload_n hx hb d_TR_becomeLike_69 rfl (lv_at hl 1 rfl) ?_
  refine g_TR_endRow hX t_57 hWd hv1 d_TR_becomeLike_70 ?_
  have q13 := v_TR_endRow hWd hv1
  refine lv_iconst (v := 0) hx hb d_TR_becomeLike_73 (by decide) ?_
  refine lv_aload_n hx hb d_TR_becomeLike_74 rfl (lv_at hl 0 rfl) ?_
  refine g_TR_endRow hX t_57 hWd hv0 d_TR_becomeLike_75 ?_
  have q14 := v_TR_endRow hWd hv0
  refine lv_iconst (v := 0) hx hb d_TR_becomeLike_78 (by decide) ?_
  refine lv_aload_n hx hb d_TR_becomeLike_79 rfl (lv_at hl 0 rfl) ?_
  refine g_TR_branches hX t_52 hWd hv0 d_TR_becomeLike_80 ?_
  obtain ⟨M15, hM15, h⟩ := ob h
  refine r_copy hX t_290 hl.1 (Nat.le_of_ble_eq_true rfl) (Nat.le_of_ble_eq_true rfl) hWd q13 q14 hM15 d_TR_becomeLike_83 (fun H locs hWd => ?_)
  refine lv_aload_n hx hb d_TR_becomeLike_86 rfl (lv_at hl 1 rfl) ?_
  refine g_TR_depth hX t_58 hWd hv1 d_TR_becomeLike_87 ?_
  have q16 := v_TR_depth hWd hv1
  refine lv_iconst (v := 0) hx hb d_TR_becomeLike_90 (by decide) ?_
  refine lv_aload_n hx hb d_TR_becomeLike_91 rfl (lv_at hl 0 rfl) ?_
  refine g_TR_depth hX t_58 hWd hv0 d_TR_becomeLike_92 ?_
  have q17 := v_TR_depth hWd hv0
  refine lv_iconst (v := 0) hx hb d_TR_becomeLike_95 (by decide) ?_
  refine lv_aload_n hx hb d_TR_becomeLike_96 rfl (lv_at hl 0 rfl) ?_
  refine g_TR_branches hX t_52 hWd hv0 d_TR_becomeLike_97 ?_
  obtain ⟨M18, hM18, h⟩ := ob h
  refine r_copy hX t_290 hl.1 (Nat.le_of_ble_eq_true rfl) (Nat.le_of_ble_eq_true rfl) hWd q16 q17 hM18 d_TR_becomeLike_100 (fun H locs hWd => ?_)
  obtain rfl := Option.some.inj h
  exact e_vret hX hr hlk hWd d_TR_becomeLike_103
set_option maxHeartbeats 4000000 in
set_option maxRecDepth 100000 in
theorem w_TR_writeBranch_15 {p : Program} {l : Launch} {e : Env} {s : State} {m : MethodId} {args : Array Value} {below : List Frame} {meth : Method} {c : Code} {E : En} {K G : Nat → Nat} {L : List Nat} (hX : CallFix p m c b_TR_writeBranch 11 s args w_TR_writeBranch "NibbleTrie$Trie") (hr : meth.sig.returnType = (some .int)) (hlk : meth.locks = false) {out : Int32 × Mm} {rc : Nat → Int32 → Int32 → Int32 → Nat → Int32 → Mm → Option (Int32 × Mm)} {d : Nat} (hrc : ∀ {M : Mm} {sz : Nat} {out : Int32 × Mm} (v0 : Nat) (v1 : Int32) (v2 : Int32) (v3 : Int32) (v4 : Nat) (v5 : Int32), K v0 = 6 → K v4 = 2 → rc v0 v1 v2 v3 v4 v5 M = some out → Met l y_TR_writeReference w_TR_writeReference (rm_TR_writeReference d) (va_Pc [.ref v0, .int v1, .int v2, .int v3, .ref v4, .int v5] (Wp E K G L M sz)) (QI E K G L sz out.1 out.2) 0 0 (AL L sz)) : ∀ (n : Nat) (v0 : Nat) (v1 : Int32) (v2 : Int32) (v3 : Int32) (v4 : Nat) (v5 : Int32) (v6 : Int32) (v7 : Int32) (v8 : Int32) (M : Mm) (H : Heap) (locs : List Loc) (ls : Array Slot), K v0 = 6 → K v4 = 2 → lv_has ls 11 [(0, .ref v0), (1, .int v1), (2, .int v2), (3, .int v3), (4, .ref v4), (5, .int v5), (6, .int v6), (7, .int v7), (8, .int v8)] → Wd E K G L M s.heap H locs s → f_TR_writeBranch_15 rc G n v0 v1 v2 v3 v4 v5 v6 v7 v8 M = some out → W p l e (rm_TR_writeBranch d) s m args below meth c H locs 0 0 (MQ below (QI E K G L s.heap.size out.1 out.2) args s 0 0 (AL L s.heap.size)) (F0 m 15 ls []) := by
  have hx := hX.1
  have hb := hX.2.1
  have hown := hX.2.2.2.1
  have hts := hX.2.2.2.2
  intro n
  induction n with
  | zero => intro _ _ _ _ _ _ _ _ _ _ _ _ _ _ _ _ _ h; rw [f_TR_writeBranch_15] at h; cases h
  | succ n ih =>
    intro v0 v1 v2 v3 v4 v5 v6 v7 v8 M H locs ls hv0 hv4 hl hWd h
    rw [f_TR_writeBranch_15] at h
    refine lv_iload hx hb d_TR_writeBranch_15 (lv_at hl 8 rfl) ?_
    refine lv_bipush (v := 16) hx hb d_TR_writeBranch_17 (by decide) ?_
    refine lv_icmp_ge (tgt := 83) hx hb d_TR_writeBranch_19 (by decide) (fun hc => ?_) (fun hc => ?_)
    · replace h := ifP h hc
      refine lv_aload hx hb d_TR_writeBranch_83 (lv_at hl 4 rfl) ?_
      refine lv_iload hx hb d_TR_writeBranch_85 (lv_at hl 6 rfl) ?_
      refine lv_aload_n hx hb d_TR_writeBranch_87 rfl (lv_at hl 0 rfl) ?_
      refine g_TR_map hX t_46 hWd hv0 d_TR_writeBranch_88 ?_
      have q1 := v_TR_map hWd hv0
      refine lv_iload_n hx hb d_TR_writeBranch_91 rfl (lv_at hl 1 rfl) ?_
      refine lv_iload_n hx hb d_TR_writeBranch_92 rfl (lv_at hl 3 rfl) ?_
      obtain ⟨q2, hq2, h⟩ := ob h
      refine kc_z (va_runV (As := [.int v1, .int v3]) (rest := [.int v6, .ref v4]) hX (m_PM_endsAt l  (gr M v0 0) v1 v3 q1 hq2) (cb_PM_endsAt hts t_193 ⟨by simp only [headSpec, rm_TR_writeBranch, rm_PM_endsAt, RD]; omega, by simp only [headSpec, rm_TR_writeBranch, rm_PM_endsAt, RD]; omega⟩) (pv_PM hWd q1) rfl rfl hl.1 rfl (lv_room (Nat.le_of_ble_eq_true rfl)) d_TR_writeBranch_93 ⟨Nat.zero_le _, Nat.zero_le _⟩) hWd (fun z3 H locs hWd => ?_)
      refine lv_if_eq (tgt := 112) hx hb d_TR_writeBranch_96 (by decide) (fun hc => ?_) (fun hc => ?_)
      · replace h := ifP h hc
        refine lv_lconst (v := 0) hx hb d_TR_writeBranch_112 (by decide) ?_
        obtain ⟨j4, hj4, h⟩ := ob h
        refine r_last hX hWd hv4 hj4 d_TR_writeBranch_113 (fun H locs hWd => ?_)
        obtain ⟨M5, eM5, h⟩ := stE h
        rw [← eM5] at hWd
        refine lv_iload hx hb d_TR_writeBranch_114 (lv_at hl 6 rfl) ?_
        refine lv_iconst (v := 1) hx hb d_TR_writeBranch_116 (by decide) ?_
        refine lv_iadd hx hb d_TR_writeBranch_117 ?_
        refine lv_iload hx hb d_TR_writeBranch_118 (lv_at hl 5 rfl) ?_
        refine lv_isub hx hb d_TR_writeBranch_120 ?_
        obtain rfl := Option.some.inj h
        exact e_iret hX hr hlk hWd d_TR_writeBranch_121
      · replace h := ifN h hc
        refine lv_aload_n hx hb d_TR_writeBranch_99 rfl (lv_at hl 0 rfl) ?_
        refine g_TR_map hX t_46 hWd hv0 d_TR_writeBranch_100 ?_
        have q6 := v_TR_map hWd hv0
        refine g_PM_values hX t_32 hWd q6 d_TR_writeBranch_103 ?_
        have q7 := v_PM_values hWd q6
        refine lv_iload_n hx hb d_TR_writeBranch_106 rfl (lv_at hl 1 rfl) ?_
        obtain ⟨j8, hj8, h⟩ := ob h
        refine r_iald hX hWd q7 hj8 d_TR_writeBranch_107 ?_
        refine lv_i2l hx hb d_TR_writeBranch_108 rfl ?_
        refine lv_goto (tgt := 113) hx hb d_TR_writeBranch_109 (by decide) ?_
        obtain ⟨j9, hj9, h⟩ := ob h
        refine r_last hX hWd hv4 hj9 d_TR_writeBranch_113 (fun H locs hWd => ?_)
        obtain ⟨M10, eM10, h⟩ := stE h
        rw [← eM10] at hWd
        refine lv_iload hx hb d_TR_writeBranch_114 (lv_at hl 6 rfl) ?_
        refine lv_iconst (v := 1) hx hb d_TR_writeBranch_116 (by decide) ?_
        refine lv_iadd hx hb d_TR_writeBranch_117 ?_
        refine lv_iload hx hb d_TR_writeBranch_118 (lv_at hl 5 rfl) ?_
        refine lv_isub hx hb d_TR_writeBranch_120 ?_
        obtain rfl := Option.some.inj h
        exact e_iret hX hr hlk hWd d_TR_writeBranch_121
    · replace h := ifN h hc
      refine lv_iload hx hb d_TR_writeBranch_22 (lv_at hl 7 rfl) ?_
      refine lv_istore (lv' := [(9, .int v7), (0, .ref v0), (1, .int v1), (2, .int v2), (3, .int v3), (4, .ref v4), (5, .int v5), (6, .int v6), (7, .int v7), (8, .int v8)]) hx hb d_TR_writeBranch_24 hl (by decide) rfl (fun ls hl => ?_)
      refine lv_aload_n hx hb d_TR_writeBranch_26 rfl (lv_at hl 1 rfl) ?_
      refine g_TR_map hX t_46 hWd hv0 d_TR_writeBranch_27 ?_
      have q11 := v_TR_map hWd hv0
      refine lv_iload hx hb d_TR_writeBranch_30 (lv_at hl 0 rfl) ?_
      refine lv_iload_n hx hb d_TR_writeBranch_32 rfl (lv_at hl 3 rfl) ?_
      refine lv_iload_n hx hb d_TR_writeBranch_33 rfl (lv_at hl 4 rfl) ?_
      refine lv_iload hx hb d_TR_writeBranch_34 (lv_at hl 9 rfl) ?_
      obtain ⟨q12, hq12, h⟩ := ob h
      refine kc_i (va_runV (As := [.int v7, .int v2, .int v3, .int v8]) (rest := []) hX (m_PM_endOfChild l  (gr M v0 0) v7 v2 v3 v8 q11 hq12) (cb_PM_endOfChild hts t_198 ⟨by simp only [headSpec, rm_TR_writeBranch, rm_PM_endOfChild, RD]; omega, by simp only [headSpec, rm_TR_writeBranch, rm_PM_endOfChild, RD]; omega⟩) (pv_PM hWd q11) rfl rfl hl.1 rfl (lv_room (Nat.le_of_ble_eq_true rfl)) d_TR_writeBranch_36 ⟨Nat.zero_le _, Nat.zero_le _⟩) hWd (fun H locs hWd => ?_)
      refine lv_istore (lv' := [(7, .int q12), (9, .int v7), (0, .ref v0), (1, .int v1), (2, .int v2), (3, .int v3), (4, .ref v4), (5, .int v5), (6, .int v6), (8, .int v8)]) hx hb d_TR_writeBranch_39 hl (by decide) rfl (fun ls hl => ?_)
      refine lv_aload_n hx hb d_TR_writeBranch_41 rfl (lv_at hl 2 rfl) ?_
      refine lv_iload hx hb d_TR_writeBranch_42 (lv_at hl 1 rfl) ?_
      refine lv_iload hx hb d_TR_writeBranch_44 (lv_at hl 0 rfl) ?_
      refine lv_iload_n hx hb d_TR_writeBranch_46 rfl (lv_at hl 5 rfl) ?_
      refine lv_iconst (v := 1) hx hb d_TR_writeBranch_47 (by decide) ?_
      refine lv_iadd hx hb d_TR_writeBranch_48 ?_
      refine lv_aload hx hb d_TR_writeBranch_49 (lv_at hl 6 rfl) ?_
      refine lv_iload hx hb d_TR_writeBranch_51 (lv_at hl 8 rfl) ?_
      refine lv_iconst (v := 1) hx hb d_TR_writeBranch_53 (by decide) ?_
      refine lv_iadd hx hb d_TR_writeBranch_54 ?_
      obtain ⟨q13, hq13, h⟩ := ob h
      refine kc_i (va_runV (As := [.int v7, .int q12, .int (v3 + 1), .ref v4, .int (v6 + 1)]) (rest := []) hX (hrc v0 v7 q12 (v3 + 1) v4 (v6 + 1) hv0 hv4 hq13) (cb_TR_writeReference hts t_228 ⟨by simp only [headSpec, rm_TR_writeBranch, rm_TR_writeReference, RD]; omega, by simp only [headSpec, rm_TR_writeBranch, rm_TR_writeReference, RD]; omega⟩) (pv_TR hWd hv0) rfl rfl hl.1 rfl (lv_room (Nat.le_of_ble_eq_true rfl)) d_TR_writeBranch_55 ⟨Nat.zero_le _, Nat.zero_le _⟩) hWd (fun H locs hWd => ?_)
      refine lv_istore (lv' := [(10, .int q13.1), (7, .int q12), (9, .int v7), (0, .ref v0), (1, .int v1), (2, .int v2), (3, .int v3), (4, .ref v4), (5, .int v5), (6, .int v6), (8, .int v8)]) hx hb d_TR_writeBranch_58 hl (by decide) rfl (fun ls hl => ?_)
      refine lv_aload hx hb d_TR_writeBranch_60 (lv_at hl 7 rfl) ?_
      refine lv_iload hx hb d_TR_writeBranch_62 (lv_at hl 9 rfl) ?_
      refine lv_iload hx hb d_TR_writeBranch_64 (lv_at hl 0 rfl) ?_
      refine lv_i2l hx hb d_TR_writeBranch_66 rfl ?_
      obtain ⟨j14, hj14, h⟩ := ob h
      refine r_last hX hWd hv4 hj14 d_TR_writeBranch_67 (fun H locs hWd => ?_)
      obtain ⟨M15, eM15, h⟩ := stE h
      rw [← eM15] at hWd
      refine lv_iload hx hb d_TR_writeBranch_68 (lv_at hl 9 rfl) ?_
      refine lv_iconst (v := 1) hx hb d_TR_writeBranch_70 (by decide) ?_
      refine lv_iload hx hb d_TR_writeBranch_71 (lv_at hl 0 rfl) ?_
      refine lv_iadd hx hb d_TR_writeBranch_73 ?_
      refine lv_iadd hx hb d_TR_writeBranch_74 ?_
      refine lv_istore (lv' := [(6, .int (v6 + (1 + q13.1))), (10, .int q13.1), (7, .int q12), (9, .int v7), (0, .ref v0), (1, .int v1), (2, .int v2), (3, .int v3), (4, .ref v4), (5, .int v5), (8, .int v8)]) hx hb d_TR_writeBranch_75 hl (by decide) rfl (fun ls hl => ?_)
      refine lv_iinc (k := 10) (v := (v8 + 1)) (lv' := [(8, .int (v8 + 1)), (6, .int (v6 + (1 + q13.1))), (10, .int q13.1), (7, .int q12), (9, .int v7), (0, .ref v0), (1, .int v1), (2, .int v2), (3, .int v3), (4, .ref v4), (5, .int v5)]) hx hb d_TR_writeBranch_77 hl rfl (by rfl) (by decide) rfl (fun ls hl => ?_)
      refine lv_goto (tgt := 15) hx hb d_TR_writeBranch_80 (by decide) ?_
      exact ih v0 v1 v2 v3 v4 v5 (v6 + (1 + q13.1)) q12 (v8 + 1) M15 _ _ _ hv0 hv4 (lv_sub hl [5, 6, 7, 8, 9, 10, 1, 3, 0] rfl) hWd h
set_option maxHeartbeats 4000000 in
set_option maxRecDepth 100000 in
theorem m_TR_writeBranch (l : Launch) {E : En} {K G : Nat → Nat} {L : List Nat} {M : Mm} {sz : Nat} {out : Int32 × Mm} {rc : Nat → Int32 → Int32 → Int32 → Nat → Int32 → Mm → Option (Int32 × Mm)} {d : Nat} (hrc : ∀ {M : Mm} {sz : Nat} {out : Int32 × Mm} (v0 : Nat) (v1 : Int32) (v2 : Int32) (v3 : Int32) (v4 : Nat) (v5 : Int32), K v0 = 6 → K v4 = 2 → rc v0 v1 v2 v3 v4 v5 M = some out → Met l y_TR_writeReference w_TR_writeReference (rm_TR_writeReference d) (va_Pc [.ref v0, .int v1, .int v2, .int v3, .ref v4, .int v5] (Wp E K G L M sz)) (QI E K G L sz out.1 out.2) 0 0 (AL L sz)) (v0 : Nat) (v1 : Int32) (v2 : Int32) (v3 : Int32) (v4 : Nat) (v5 : Int32) (hv0 : K v0 = 6) (hv4 : K v4 = 2) (h : f_TR_writeBranch rc G v0 v1 v2 v3 v4 v5 M = some out) : Met l y_TR_writeBranch w_TR_writeBranch (rm_TR_writeBranch d) (va_Pc [.ref v0, .int v1, .int v2, .int v3, .ref v4, .int v5] (Wp E K G L M sz)) (QI E K G L sz out.1 out.2) 0 0 (AL L sz) := by
  refine Met.ofW (cc := b_TR_writeBranch) (maxL := 11) (ret := (some .int)) (by decide) rfl ?_
  intro p e s m av below meth c s₁ B hml hv
  obtain ⟨rfl, hWp⟩ := hv
  have hWd := Wd.start hWp
  obtain ⟨rfl, -⟩ := hWp
  have hX : CallFix p m c b_TR_writeBranch 11 s _ w_TR_writeBranch "NibbleTrie$Trie" := ⟨B.exec, B.bytes, hml, findClass_of_methodNamed B.named, atoms_spec (ws := w_TR_writeBranch) B.pre⟩
  have hx := hX.1
  have hb := hX.2.1
  have hown := hX.2.2.2.1
  have hts := hX.2.2.2.2
  have hr := B.returns
  have hlk := B.notSynchronized
  have hl := lv_entry ([.ref v0, .int v1, .int v2, .int v3, .ref v4, .int v5]) (n := 11) (Nat.le_of_ble_eq_true rfl)
  rw [lg_entry_eq]
  generalize (lg_sl ([.ref v0, .int v1, .int v2, .int v3, .ref v4, .int v5]) ++ List.replicate (11 - (lg_sl ([.ref v0, .int v1, .int v2, .int v3, .ref v4, .int v5])).length) Slot.unset).toArray = ls at hl ⊢
  have hl : lv_has ls 11 [(0, .ref v0), (1, .int v1), (2, .int v2), (3, .int v3), (4, .ref v4), (5, .int v5)] := hl
  unfold f_TR_writeBranch at h
  refine lv_iload hx hb d_TR_writeBranch_0 (lv_at hl 5 rfl) ?_
  refine lv_istore (lv' := [(6, .int v5), (0, .ref v0), (1, .int v1), (2, .int v2), (3, .int v3), (4, .ref v4), (5, .int v5)]) hx hb d_TR_writeBranch_2 hl (by decide) rfl (fun ls hl => ?_)
  refine lv_aload_n hx hb d_TR_writeBranch_4 rfl (lv_at hl 1 rfl) ?_
  refine lv_iload_n hx hb d_TR_writeBranch_5 rfl (lv_at hl 2 rfl) ?_
  refine lv_iload_n hx hb d_TR_writeBranch_6 rfl (lv_at hl 4 rfl) ?_
  obtain ⟨q1, hq1, h⟩ := ob h
  refine kc_i (va_runV (As := [.int v1, .int v3]) (rest := []) hX (m_TR_firstChildRow l  v0 v1 v3 hv0 hq1) (cb_TR_firstChildRow hts t_189 ⟨by simp only [headSpec, rm_TR_writeBranch, rm_TR_firstChildRow, RD]; omega, by simp only [headSpec, rm_TR_writeBranch, rm_TR_firstChildRow, RD]; omega⟩) (pv_TR hWd hv0) rfl rfl hl.1 rfl (lv_room (Nat.le_of_ble_eq_true rfl)) d_TR_writeBranch_7 ⟨Nat.zero_le _, Nat.zero_le _⟩) hWd (fun H locs hWd => ?_)
  refine lv_istore (lv' := [(7, .int q1), (6, .int v5), (0, .ref v0), (1, .int v1), (2, .int v2), (3, .int v3), (4, .ref v4), (5, .int v5)]) hx hb d_TR_writeBranch_10 hl (by decide) rfl (fun ls hl => ?_)
  refine lv_iconst (v := 0) hx hb d_TR_writeBranch_12 (by decide) ?_
  refine lv_istore (lv' := [(8, .int 0), (7, .int q1), (6, .int v5), (0, .ref v0), (1, .int v1), (2, .int v2), (3, .int v3), (4, .ref v4), (5, .int v5)]) hx hb d_TR_writeBranch_13 hl (by decide) rfl (fun ls hl => ?_)
  exact w_TR_writeBranch_15 hX hr hlk hrc FU v0 v1 v2 v3 v4 v5 v5 q1 0 M _ _ _ hv0 hv4 (lv_sub hl [3, 4, 5, 6, 7, 8, 2, 1, 0] rfl) hWd h
set_option maxHeartbeats 4000000 in
set_option maxRecDepth 100000 in
theorem m_TR_branchDigest (l : Launch) {E : En} {K G : Nat → Nat} {L : List Nat} {M : Mm} {sz : Nat} {out : Int64 × Mm} {rc : Nat → Int32 → Int32 → Int32 → Nat → Int32 → Mm → Option (Int32 × Mm)} {d : Nat} (hrc : ∀ {M : Mm} {sz : Nat} {out : Int32 × Mm} (v0 : Nat) (v1 : Int32) (v2 : Int32) (v3 : Int32) (v4 : Nat) (v5 : Int32), K v0 = 6 → K v4 = 2 → rc v0 v1 v2 v3 v4 v5 M = some out → Met l y_TR_writeReference w_TR_writeReference (rm_TR_writeReference d) (va_Pc [.ref v0, .int v1, .int v2, .int v3, .ref v4, .int v5] (Wp E K G L M sz)) (QI E K G L sz out.1 out.2) 0 0 (AL L sz)) (v0 : Nat) (v1 : Int32) (v2 : Int32) (v3 : Int32) (hv0 : K v0 = 6) (h : f_TR_branchDigest rc G v0 v1 v2 v3 M = some out) : Met l y_TR_branchDigest w_TR_branchDigest (rm_TR_branchDigest d) (va_Pc [.ref v0, .int v1, .int v2, .int v3] (Wp E K G L M sz)) (QL E K G L sz out.1 out.2) 0 0 (AL L sz) := by
  refine Met.ofW (cc := b_TR_branchDigest) (maxL := 6) (ret := (some .long)) (by decide) rfl ?_
  intro p e s m av below meth c s₁ B hml hv
  obtain ⟨rfl, hWp⟩ := hv
  have hWd := Wd.start hWp
  obtain ⟨rfl, -⟩ := hWp
  have hX : CallFix p m c b_TR_branchDigest 6 s _ w_TR_branchDigest "NibbleTrie$Trie" := ⟨B.exec, B.bytes, hml, findClass_of_methodNamed B.named, atoms_spec (ws := w_TR_branchDigest) B.pre⟩
  have hx := hX.1
  have hb := hX.2.1
  have hown := hX.2.2.2.1
  have hts := hX.2.2.2.2
  have hr := B.returns
  have hlk := B.notSynchronized
  have hl := lv_entry ([.ref v0, .int v1, .int v2, .int v3]) (n := 6) (Nat.le_of_ble_eq_true rfl)
  rw [lg_entry_eq]
  generalize (lg_sl ([.ref v0, .int v1, .int v2, .int v3]) ++ List.replicate (6 - (lg_sl ([.ref v0, .int v1, .int v2, .int v3])).length) Slot.unset).toArray = ls at hl ⊢
  have hl : lv_has ls 6 [(0, .ref v0), (1, .int v1), (2, .int v2), (3, .int v3)] := hl
  unfold f_TR_branchDigest at h
  refine lv_iload_n hx hb d_TR_branchDigest_0 rfl (lv_at hl 3 rfl) ?_
  refine lv_iconst (v := 4) hx hb d_TR_branchDigest_1 (by decide) ?_
  refine lv_icmp_lt (tgt := 7) hx hb d_TR_branchDigest_2 (by decide) (fun hc => ?_) (fun hc => ?_)
  · replace h := ifP h hc
    refine lv_aload_n hx hb d_TR_branchDigest_7 rfl (lv_at hl 0 rfl) ?_
    refine g_TR_drafts hX t_60 hWd hv0 d_TR_branchDigest_8 ?_
    have q1 := v_TR_drafts hWd hv0
    refine lv_iload_n hx hb d_TR_branchDigest_11 rfl (lv_at hl 3 rfl) ?_
    obtain ⟨j2, hj2, h⟩ := ob h
    refine r_gald hX hWd q1 hj2 d_TR_branchDigest_12 ?_
    have q3 := v_gel hWd q1 hj2
    refine lv_astore (lv' := [(4, .ref (gr M (gr M v0 9) j2)), (0, .ref v0), (1, .int v1), (2, .int v2), (3, .int v3)]) hx hb d_TR_branchDigest_13 hl (by decide) rfl (fun ls hl => ?_)
    refine lv_aload_n hx hb d_TR_branchDigest_15 rfl (lv_at hl 1 rfl) ?_
    refine lv_iload_n hx hb d_TR_branchDigest_16 rfl (lv_at hl 2 rfl) ?_
    refine lv_iload_n hx hb d_TR_branchDigest_17 rfl (lv_at hl 3 rfl) ?_
    refine lv_iload_n hx hb d_TR_branchDigest_18 rfl (lv_at hl 4 rfl) ?_
    refine lv_aload hx hb d_TR_branchDigest_19 (lv_at hl 0 rfl) ?_
    refine lv_iconst (v := 0) hx hb d_TR_branchDigest_21 (by decide) ?_
    obtain ⟨q4, hq4, h⟩ := ob h
    refine kc_i (va_runV (As := [.int v1, .int v2, .int v3, .ref (gr M (gr M v0 9) j2), .int 0]) (rest := []) hX (m_TR_writeBranch l hrc  v0 v1 v2 v3 (gr M (gr M v0 9) j2) 0 hv0 q3 hq4) (cb_TR_writeBranch hts t_240 ⟨by simp only [headSpec, rm_TR_branchDigest, rm_TR_writeBranch, RD]; omega, by simp only [headSpec, rm_TR_branchDigest, rm_TR_writeBranch, RD]; omega⟩) (pv_TR hWd hv0) rfl rfl hl.1 rfl (lv_room (Nat.le_of_ble_eq_true rfl)) d_TR_branchDigest_22 ⟨Nat.zero_le _, Nat.zero_le _⟩) hWd (fun H locs hWd => ?_)
    refine lv_istore (lv' := [(5, .int q4.1), (4, .ref (gr M (gr M v0 9) j2)), (0, .ref v0), (1, .int v1), (2, .int v2), (3, .int v3)]) hx hb d_TR_branchDigest_25 hl (by decide) rfl (fun ls hl => ?_)
    refine lv_aload hx hb d_TR_branchDigest_27 (lv_at hl 1 rfl) ?_
    refine lv_iconst (v := 0) hx hb d_TR_branchDigest_29 (by decide) ?_
    refine lv_iload hx hb d_TR_branchDigest_30 (lv_at hl 0 rfl) ?_
    obtain ⟨q5, hq5, h⟩ := ob h
    refine kc_l (va_runSN (As := [.ref (gr M (gr M v0 9) j2), .int 0, .int q4.1]) (rest := []) hX (m_NT_digest l  (gr M (gr M v0 9) j2) 0 q4.1 q3 hq5) (cn_NT_digest hts hWd.2.2.2.2.2.2.2.2.1 ⟨by simp only [headSpec, rm_TR_branchDigest, rm_NT_digest, RD]; omega, by simp only [headSpec, rm_TR_branchDigest, rm_NT_digest, RD]; omega⟩) hWd.preS rfl rfl hl.1 rfl (lv_room (Nat.le_of_ble_eq_true rfl)) d_TR_branchDigest_32 ⟨Nat.zero_le _, Nat.zero_le _⟩) hWd (fun H locs hWd => ?_)
    obtain rfl := Option.some.inj h
    exact e_lret hX hr hlk hWd d_TR_branchDigest_35
  · replace h := ifN h hc
    refine lv_lconst (v := 0) hx hb d_TR_branchDigest_5 (by decide) ?_
    obtain rfl := Option.some.inj h
    exact e_lret hX hr hlk hWd d_TR_branchDigest_6
set_option maxHeartbeats 4000000 in
set_option maxRecDepth 100000 in
theorem m_TR_writeReference (l : Launch) {E : En} {K G : Nat → Nat} {L : List Nat} {M : Mm} {sz : Nat} {out : Int32 × Mm} {rc : Nat → Int32 → Int32 → Int32 → Nat → Int32 → Mm → Option (Int32 × Mm)} {d : Nat} (hrc : ∀ {M : Mm} {sz : Nat} {out : Int32 × Mm} (v0 : Nat) (v1 : Int32) (v2 : Int32) (v3 : Int32) (v4 : Nat) (v5 : Int32), K v0 = 6 → K v4 = 2 → rc v0 v1 v2 v3 v4 v5 M = some out → Met l y_TR_writeReference w_TR_writeReference (rm_TR_writeReference d) (va_Pc [.ref v0, .int v1, .int v2, .int v3, .ref v4, .int v5] (Wp E K G L M sz)) (QI E K G L sz out.1 out.2) 0 0 (AL L sz)) (v0 : Nat) (v1 : Int32) (v2 : Int32) (v3 : Int32) (v4 : Nat) (v5 : Int32) (hv0 : K v0 = 6) (hv4 : K v4 = 2) (h : f_TR_writeReference rc G v0 v1 v2 v3 v4 v5 M = some out) : Met l y_TR_writeReference w_TR_writeReference (rm_TR_writeReference (d + 1)) (va_Pc [.ref v0, .int v1, .int v2, .int v3, .ref v4, .int v5] (Wp E K G L M sz)) (QI E K G L sz out.1 out.2) 0 0 (AL L sz) := by
  refine Met.ofW (cc := b_TR_writeReference) (maxL := 9) (ret := (some .int)) (by decide) rfl ?_
  intro p e s m av below meth c s₁ B hml hv
  obtain ⟨rfl, hWp⟩ := hv
  have hWd := Wd.start hWp
  obtain ⟨rfl, -⟩ := hWp
  have hX : CallFix p m c b_TR_writeReference 9 s _ w_TR_writeReference "NibbleTrie$Trie" := ⟨B.exec, B.bytes, hml, findClass_of_methodNamed B.named, atoms_spec (ws := w_TR_writeReference) B.pre⟩
  have hx := hX.1
  have hb := hX.2.1
  have hown := hX.2.2.2.1
  have hts := hX.2.2.2.2
  have hr := B.returns
  have hlk := B.notSynchronized
  have hl := lv_entry ([.ref v0, .int v1, .int v2, .int v3, .ref v4, .int v5]) (n := 9) (Nat.le_of_ble_eq_true rfl)
  rw [lg_entry_eq]
  generalize (lg_sl ([.ref v0, .int v1, .int v2, .int v3, .ref v4, .int v5]) ++ List.replicate (9 - (lg_sl ([.ref v0, .int v1, .int v2, .int v3, .ref v4, .int v5])).length) Slot.unset).toArray = ls at hl ⊢
  have hl : lv_has ls 9 [(0, .ref v0), (1, .int v1), (2, .int v2), (3, .int v3), (4, .ref v4), (5, .int v5)] := hl
  unfold f_TR_writeReference at h
  refine lv_iload_n hx hb d_TR_writeReference_0 rfl (lv_at hl 1 rfl) ?_
  refine lv_iload_n hx hb d_TR_writeReference_1 rfl (lv_at hl 2 rfl) ?_
  refine lv_icmp_ne (tgt := 7) hx hb d_TR_writeReference_2 (by decide) (fun hc => ?_) (fun hc => ?_)
  · replace h := ifN h hc
    refine lv_iload_n hx hb d_TR_writeReference_7 rfl (lv_at hl 2 rfl) ?_
    refine lv_iload_n hx hb d_TR_writeReference_8 rfl (lv_at hl 1 rfl) ?_
    refine lv_isub hx hb d_TR_writeReference_9 ?_
    refine lv_iconst (v := 1) hx hb d_TR_writeReference_10 (by decide) ?_
    refine lv_icmp_ne (tgt := 58) hx hb d_TR_writeReference_11 (by decide) (fun hc => ?_) (fun hc => ?_)
    · replace h := ifN h hc
      refine lv_aload_n hx hb d_TR_writeReference_58 rfl (lv_at hl 0 rfl) ?_
      refine g_TR_map hX t_46 hWd hv0 d_TR_writeReference_59 ?_
      have q1 := v_TR_map hWd hv0
      refine g_PM_paths hX t_30 hWd q1 d_TR_writeReference_62 ?_
      have q2 := v_PM_paths hWd q1
      refine lv_iload_n hx hb d_TR_writeReference_65 rfl (lv_at hl 1 rfl) ?_
      obtain ⟨j3, hj3, h⟩ := ob h
      refine r_iald hX hWd q2 hj3 d_TR_writeReference_66 ?_
      refine lv_aload_n hx hb d_TR_writeReference_67 rfl (lv_at hl 0 rfl) ?_
      refine g_TR_map hX t_46 hWd hv0 d_TR_writeReference_68 ?_
      have q4 := v_TR_map hWd hv0
      refine g_PM_paths hX t_30 hWd q4 d_TR_writeReference_71 ?_
      have q5 := v_PM_paths hWd q4
      refine lv_iload_n hx hb d_TR_writeReference_74 rfl (lv_at hl 2 rfl) ?_
      refine lv_iconst (v := 1) hx hb d_TR_writeReference_75 (by decide) ?_
      refine lv_isub hx hb d_TR_writeReference_76 ?_
      obtain ⟨j6, hj6, h⟩ := ob h
      refine r_iald hX hWd q5 hj6 d_TR_writeReference_77 ?_
      obtain ⟨q7, hq7, h⟩ := ob h
      refine kp_i (va_runS (As := [.int (gi M (gr M (gr M v0 0) 0) j3), .int (gi M (gr M (gr M v0 0) 0) j6)]) (rest := []) hX (m_PA_commonLength l  (gi M (gr M (gr M v0 0) 0) j3) (gi M (gr M (gr M v0 0) 0) j6) hq7) (cb_PA_commonLength hts t_178 ⟨by simp only [headSpec, rm_TR_writeReference, rm_PA_commonLength, RD]; omega, by simp only [headSpec, rm_TR_writeReference, rm_PA_commonLength, RD]; omega⟩) preEq rfl rfl hl.1 rfl (lv_room (Nat.le_of_ble_eq_true rfl)) d_TR_writeReference_78 ⟨Nat.zero_le _, Nat.zero_le _⟩) ?_
      refine lv_istore (lv' := [(6, .int q7), (0, .ref v0), (1, .int v1), (2, .int v2), (3, .int v3), (4, .ref v4), (5, .int v5)]) hx hb d_TR_writeReference_81 hl (by decide) rfl (fun ls hl => ?_)
      refine lv_aload_n hx hb d_TR_writeReference_83 rfl (lv_at hl 1 rfl) ?_
      refine lv_iload_n hx hb d_TR_writeReference_84 rfl (lv_at hl 2 rfl) ?_
      refine lv_iload_n hx hb d_TR_writeReference_85 rfl (lv_at hl 3 rfl) ?_
      refine lv_iload hx hb d_TR_writeReference_86 (lv_at hl 0 rfl) ?_
      obtain ⟨q8, hq8, h⟩ := ob h
      refine kc_l (va_runV (As := [.int v1, .int v2, .int q7]) (rest := []) hX (m_TR_branchDigest l hrc  v0 v1 v2 q7 hv0 hq8) (cb_TR_branchDigest hts t_236 ⟨by simp only [headSpec, rm_TR_writeReference, rm_TR_branchDigest, RD]; omega, by simp only [headSpec, rm_TR_writeReference, rm_TR_branchDigest, RD]; omega⟩) (pv_TR hWd hv0) rfl rfl hl.1 rfl (lv_room (Nat.le_of_ble_eq_true rfl)) d_TR_writeReference_88 ⟨Nat.zero_le _, Nat.zero_le _⟩) hWd (fun H locs hWd => ?_)
      refine lv_lstore (lv' := [(7, .long q8.1), (6, .int q7), (0, .ref v0), (1, .int v1), (2, .int v2), (3, .int v3), (4, .ref v4), (5, .int v5)]) hx hb d_TR_writeReference_91 hl (by decide) rfl (fun ls hl => ?_)
      refine lv_iload hx hb d_TR_writeReference_93 (lv_at hl 1 rfl) ?_
      refine lv_iload_n hx hb d_TR_writeReference_95 rfl (lv_at hl 5 rfl) ?_
      refine lv_icmp_ne (tgt := 108) hx hb d_TR_writeReference_96 (by decide) (fun hc => ?_) (fun hc => ?_)
      · replace h := ifN h hc
        refine lv_aload hx hb d_TR_writeReference_108 (lv_at hl 6 rfl) ?_
        refine lv_iload hx hb d_TR_writeReference_110 (lv_at hl 7 rfl) ?_
        refine lv_ldc2 (v := 2) hx hb hown (hts _ (List.mem_cons_of_mem _ t_232)) d_TR_writeReference_112 ?_
        refine lv_aload_n hx hb d_TR_writeReference_115 rfl (lv_at hl 2 rfl) ?_
        refine g_TR_map hX t_46 hWd hv0 d_TR_writeReference_116 ?_
        have q9 := v_TR_map hWd hv0
        refine g_PM_paths hX t_30 hWd q9 d_TR_writeReference_119 ?_
        have q10 := v_PM_paths hWd q9
        refine lv_iload_n hx hb d_TR_writeReference_122 rfl (lv_at hl 3 rfl) ?_
        obtain ⟨j11, hj11, h⟩ := ob h
        refine r_iald hX hWd q10 hj11 d_TR_writeReference_123 ?_
        refine lv_iload hx hb d_TR_writeReference_124 (lv_at hl 1 rfl) ?_
        refine kp_i (va_runS (As := [.int (gi q8.2 (gr q8.2 (gr q8.2 v0 0) 0) j11), .int q7]) (rest := [.long 2, .int v5, .ref v4]) hX (m_PA_front l  (gi q8.2 (gr q8.2 (gr q8.2 v0 0) 0) j11) q7 rfl) (cb_PA_front hts t_248 ⟨by simp only [headSpec, rm_TR_writeReference, rm_PA_front, RD]; omega, by simp only [headSpec, rm_TR_writeReference, rm_PA_front, RD]; omega⟩) preEq rfl rfl hl.1 rfl (lv_room (Nat.le_of_ble_eq_true rfl)) d_TR_writeReference_126 ⟨Nat.zero_le _, Nat.zero_le _⟩) ?_
        refine lv_iload_n hx hb d_TR_writeReference_129 rfl (lv_at hl 5 rfl) ?_
        refine kp_i (va_runS (As := [.int (f_PA_front (gi q8.2 (gr q8.2 (gr q8.2 v0 0) 0) j11) q7), .int v3]) (rest := [.long 2, .int v5, .ref v4]) hX (m_PA_without l  (f_PA_front (gi q8.2 (gr q8.2 (gr q8.2 v0 0) 0) j11) q7) v3 rfl) (cb_PA_without hts t_233 ⟨by simp only [headSpec, rm_TR_writeReference, rm_PA_without, RD]; omega, by simp only [headSpec, rm_TR_writeReference, rm_PA_without, RD]; omega⟩) preEq rfl rfl hl.1 rfl (lv_room (Nat.le_of_ble_eq_true rfl)) d_TR_writeReference_130 ⟨Nat.zero_le _, Nat.zero_le _⟩) ?_
        refine lv_i2l hx hb d_TR_writeReference_133 rfl ?_
        refine lv_lmul hx hb d_TR_writeReference_134 ?_
        obtain ⟨j12, hj12, h⟩ := ob h
        refine r_last hX hWd hv4 hj12 d_TR_writeReference_135 (fun H locs hWd => ?_)
        obtain ⟨M13, eM13, h⟩ := stE h
        rw [← eM13] at hWd
        refine lv_aload hx hb d_TR_writeReference_136 (lv_at hl 6 rfl) ?_
        refine lv_iload hx hb d_TR_writeReference_138 (lv_at hl 7 rfl) ?_
        refine lv_iconst (v := 1) hx hb d_TR_writeReference_140 (by decide) ?_
        refine lv_iadd hx hb d_TR_writeReference_141 ?_
        refine lv_lload hx hb d_TR_writeReference_142 (lv_at hl 0 rfl) ?_
        obtain ⟨j14, hj14, h⟩ := ob h
        refine r_last hX hWd hv4 hj14 d_TR_writeReference_144 (fun H locs hWd => ?_)
        obtain ⟨M15, eM15, h⟩ := stE h
        rw [← eM15] at hWd
        refine lv_iconst (v := 2) hx hb d_TR_writeReference_145 (by decide) ?_
        obtain rfl := Option.some.inj h
        exact e_iret hX hr hlk hWd d_TR_writeReference_146
      · replace h := ifP h hc
        refine lv_aload hx hb d_TR_writeReference_99 (lv_at hl 6 rfl) ?_
        refine lv_iload hx hb d_TR_writeReference_101 (lv_at hl 7 rfl) ?_
        refine lv_lload hx hb d_TR_writeReference_103 (lv_at hl 0 rfl) ?_
        obtain ⟨j16, hj16, h⟩ := ob h
        refine r_last hX hWd hv4 hj16 d_TR_writeReference_105 (fun H locs hWd => ?_)
        obtain ⟨M17, eM17, h⟩ := stE h
        rw [← eM17] at hWd
        refine lv_iconst (v := 1) hx hb d_TR_writeReference_106 (by decide) ?_
        obtain rfl := Option.some.inj h
        exact e_iret hX hr hlk hWd d_TR_writeReference_107
    · replace h := ifP h hc
      refine lv_aload hx hb d_TR_writeReference_14 (lv_at hl 4 rfl) ?_
      refine lv_iload hx hb d_TR_writeReference_16 (lv_at hl 5 rfl) ?_
      refine lv_ldc2 (v := 2) hx hb hown (hts _ (List.mem_cons_of_mem _ t_232)) d_TR_writeReference_18 ?_
      refine lv_aload_n hx hb d_TR_writeReference_21 rfl (lv_at hl 0 rfl) ?_
      refine g_TR_map hX t_46 hWd hv0 d_TR_writeReference_22 ?_
      have q18 := v_TR_map hWd hv0
      refine g_PM_paths hX t_30 hWd q18 d_TR_writeReference_25 ?_
      have q19 := v_PM_paths hWd q18
      refine lv_iload_n hx hb d_TR_writeReference_28 rfl (lv_at hl 1 rfl) ?_
      obtain ⟨j20, hj20, h⟩ := ob h
      refine r_iald hX hWd q19 hj20 d_TR_writeReference_29 ?_
      refine lv_iload_n hx hb d_TR_writeReference_30 rfl (lv_at hl 3 rfl) ?_
      refine kp_i (va_runS (As := [.int (gi M (gr M (gr M v0 0) 0) j20), .int v3]) (rest := [.long 2, .int v5, .ref v4]) hX (m_PA_without l  (gi M (gr M (gr M v0 0) 0) j20) v3 rfl) (cb_PA_without hts t_233 ⟨by simp only [headSpec, rm_TR_writeReference, rm_PA_without, RD]; omega, by simp only [headSpec, rm_TR_writeReference, rm_PA_without, RD]; omega⟩) preEq rfl rfl hl.1 rfl (lv_room (Nat.le_of_ble_eq_true rfl)) d_TR_writeReference_31 ⟨Nat.zero_le _, Nat.zero_le _⟩) ?_
      refine lv_i2l hx hb d_TR_writeReference_34 rfl ?_
      refine lv_lmul hx hb d_TR_writeReference_35 ?_
      refine lv_lconst (v := 1) hx hb d_TR_writeReference_36 (by decide) ?_
      refine lv_ladd hx hb d_TR_writeReference_37 ?_
      obtain ⟨j21, hj21, h⟩ := ob h
      refine r_last hX hWd hv4 hj21 d_TR_writeReference_38 (fun H locs hWd => ?_)
      obtain ⟨M22, eM22, h⟩ := stE h
      rw [← eM22] at hWd
      refine lv_aload hx hb d_TR_writeReference_39 (lv_at hl 4 rfl) ?_
      refine lv_iload hx hb d_TR_writeReference_41 (lv_at hl 5 rfl) ?_
      refine lv_iconst (v := 1) hx hb d_TR_writeReference_43 (by decide) ?_
      refine lv_iadd hx hb d_TR_writeReference_44 ?_
      refine lv_aload_n hx hb d_TR_writeReference_45 rfl (lv_at hl 0 rfl) ?_
      refine g_TR_map hX t_46 hWd hv0 d_TR_writeReference_46 ?_
      have q23 := v_TR_map hWd hv0
      refine g_PM_values hX t_32 hWd q23 d_TR_writeReference_49 ?_
      have q24 := v_PM_values hWd q23
      refine lv_iload_n hx hb d_TR_writeReference_52 rfl (lv_at hl 1 rfl) ?_
      obtain ⟨j25, hj25, h⟩ := ob h
      refine r_iald hX hWd q24 hj25 d_TR_writeReference_53 ?_
      refine lv_i2l hx hb d_TR_writeReference_54 rfl ?_
      obtain ⟨j26, hj26, h⟩ := ob h
      refine r_last hX hWd hv4 hj26 d_TR_writeReference_55 (fun H locs hWd => ?_)
      obtain ⟨M27, eM27, h⟩ := stE h
      rw [← eM27] at hWd
      refine lv_iconst (v := 2) hx hb d_TR_writeReference_56 (by decide) ?_
      obtain rfl := Option.some.inj h
      exact e_iret hX hr hlk hWd d_TR_writeReference_57
  · replace h := ifP h hc
    refine lv_iconst (v := 0) hx hb d_TR_writeReference_5 (by decide) ?_
    obtain rfl := Option.some.inj h
    exact e_iret hX hr hlk hWd d_TR_writeReference_6
set_option maxHeartbeats 4000000 in
set_option maxRecDepth 100000 in
theorem M_TR_writeReference (l : Launch) {E : En} {K G : Nat → Nat} {L : List Nat} : ∀ (d : Nat), ∀ {M : Mm} {sz : Nat} {out : Int32 × Mm} (v0 : Nat) (v1 : Int32) (v2 : Int32) (v3 : Int32) (v4 : Nat) (v5 : Int32), K v0 = 6 → K v4 = 2 → F_TR_writeReference G d v0 v1 v2 v3 v4 v5 M = some out → Met l y_TR_writeReference w_TR_writeReference (rm_TR_writeReference d) (va_Pc [.ref v0, .int v1, .int v2, .int v3, .ref v4, .int v5] (Wp E K G L M sz)) (QI E K G L sz out.1 out.2) 0 0 (AL L sz) := by
  intro d
  induction d with
  | zero => intro _ _ _ _ _ _ _ _ _ _ _ h; rw [F_TR_writeReference] at h; cases h
  | succ d ih =>
    intro M sz out v0 v1 v2 v3 v4 v5 hv0 hv4 h
    rw [F_TR_writeReference] at h
    exact m_TR_writeReference l ih v0 v1 v2 v3 v4 v5 hv0 hv4 h
set_option maxHeartbeats 4000000 in
set_option maxRecDepth 100000 in
theorem m_TR_rootNumber (l : Launch) {E : En} {K G : Nat → Nat} {L : List Nat} {M : Mm} {sz : Nat} {out : Int64 × Mm} (v0 : Nat) (hv0 : K v0 = 6) (h : f_TR_rootNumber G v0 M = some out) : Met l y_TR_rootNumber w_TR_rootNumber rm_TR_rootNumber (va_Pc [.ref v0] (Wp E K G L M sz)) (QL E K G L sz out.1 out.2) 0 0 (AL L sz) := by
  refine Met.ofW (cc := b_TR_rootNumber) (maxL := 2) (ret := (some .long)) (by decide) rfl ?_
  intro p e s m av below meth c s₁ B hml hv
  obtain ⟨rfl, hWp⟩ := hv
  have hWd := Wd.start hWp
  obtain ⟨rfl, -⟩ := hWp
  have hX : CallFix p m c b_TR_rootNumber 2 s _ w_TR_rootNumber "NibbleTrie$Trie" := ⟨B.exec, B.bytes, hml, findClass_of_methodNamed B.named, atoms_spec (ws := w_TR_rootNumber) B.pre⟩
  have hx := hX.1
  have hb := hX.2.1
  have hown := hX.2.2.2.1
  have hts := hX.2.2.2.2
  have hr := B.returns
  have hlk := B.notSynchronized
  have hl := lv_entry ([.ref v0]) (n := 2) (Nat.le_of_ble_eq_true rfl)
  rw [lg_entry_eq]
  generalize (lg_sl ([.ref v0]) ++ List.replicate (2 - (lg_sl ([.ref v0])).length) Slot.unset).toArray = ls at hl ⊢
  have hl : lv_has ls 2 [(0, .ref v0)] := hl
  unfold f_TR_rootNumber at h
  refine lv_aload_n hx hb d_TR_rootNumber_0 rfl (lv_at hl 0 rfl) ?_
  refine lv_iconst (v := 0) hx hb d_TR_rootNumber_1 (by decide) ?_
  refine lv_aload_n hx hb d_TR_rootNumber_2 rfl (lv_at hl 0 rfl) ?_
  refine g_TR_map hX t_46 hWd hv0 d_TR_rootNumber_3 ?_
  have q1 := v_TR_map hWd hv0
  refine g_PM_rows hX t_35 hWd q1 d_TR_rootNumber_6 ?_
  refine lv_iconst (v := 0) hx hb d_TR_rootNumber_9 (by decide) ?_
  refine lv_aload_n hx hb d_TR_rootNumber_10 rfl (lv_at hl 0 rfl) ?_
  refine g_TR_topReference hX t_59 hWd hv0 d_TR_rootNumber_11 ?_
  have q2 := v_TR_topReference hWd hv0
  refine lv_iconst (v := 0) hx hb d_TR_rootNumber_14 (by decide) ?_
  obtain ⟨q3, hq3, h⟩ := ob h
  refine kc_i (va_runV (As := [.int 0, .int (gi M (gr M v0 0) 2), .int 0, .ref (gr M v0 8), .int 0]) (rest := []) hX (M_TR_writeReference l RD v0 0 (gi M (gr M v0 0) 2) 0 (gr M v0 8) 0 hv0 q2 hq3) (cb_TR_writeReference hts t_228 ⟨by simp only [headSpec, rm_TR_rootNumber, rm_TR_writeReference, RD]; omega, by simp only [headSpec, rm_TR_rootNumber, rm_TR_writeReference, RD]; omega⟩) (pv_TR hWd hv0) rfl rfl hl.1 rfl (lv_room (Nat.le_of_ble_eq_true rfl)) d_TR_rootNumber_15 ⟨Nat.zero_le _, Nat.zero_le _⟩) hWd (fun H locs hWd => ?_)
  refine lv_istore_n (lv' := [(1, .int q3.1), (0, .ref v0)]) hx hb d_TR_rootNumber_18 rfl hl (by decide) rfl (fun ls hl => ?_)
  refine lv_aload_n hx hb d_TR_rootNumber_19 rfl (lv_at hl 1 rfl) ?_
  refine g_TR_topReference hX t_59 hWd hv0 d_TR_rootNumber_20 ?_
  have q4 := v_TR_topReference hWd hv0
  refine lv_iconst (v := 0) hx hb d_TR_rootNumber_23 (by decide) ?_
  refine lv_iload_n hx hb d_TR_rootNumber_24 rfl (lv_at hl 0 rfl) ?_
  obtain ⟨q5, hq5, h⟩ := ob h
  refine kc_l (va_runSN (As := [.ref (gr q3.2 v0 8), .int 0, .int q3.1]) (rest := []) hX (m_NT_digest l  (gr q3.2 v0 8) 0 q3.1 q4 hq5) (cn_NT_digest hts hWd.2.2.2.2.2.2.2.2.1 ⟨Nat.le_of_ble_eq_true rfl, Nat.le_of_ble_eq_true rfl⟩) hWd.preS rfl rfl hl.1 rfl (lv_room (Nat.le_of_ble_eq_true rfl)) d_TR_rootNumber_25 ⟨Nat.zero_le _, Nat.zero_le _⟩) hWd (fun H locs hWd => ?_)
  obtain rfl := Option.some.inj h
  exact e_lret hX hr hlk hWd d_TR_rootNumber_28
set_option maxHeartbeats 4000000 in
set_option maxRecDepth 100000 in
theorem m_TR_digestOf (l : Launch) {E : En} {K G : Nat → Nat} {L : List Nat} {M : Mm} {sz : Nat} {out : Int64 × Mm} (v0 : Nat) (v1 : Int32) (hv0 : K v0 = 6) (h : f_TR_digestOf G v0 v1 M = some out) : Met l y_TR_digestOf w_TR_digestOf rm_TR_digestOf (va_Pc [.ref v0, .int v1] (Wp E K G L M sz)) (QL E K G L sz out.1 out.2) 0 0 (AL L sz) := by
  refine Met.ofW (cc := b_TR_digestOf) (maxL := 2) (ret := (some .long)) (by decide) rfl ?_
  intro p e s m av below meth c s₁ B hml hv
  obtain ⟨rfl, hWp⟩ := hv
  have hWd := Wd.start hWp
  obtain ⟨rfl, -⟩ := hWp
  have hX : CallFix p m c b_TR_digestOf 2 s _ w_TR_digestOf "NibbleTrie$Trie" := ⟨B.exec, B.bytes, hml, findClass_of_methodNamed B.named, atoms_spec (ws := w_TR_digestOf) B.pre⟩
  have hx := hX.1
  have hb := hX.2.1
  have hown := hX.2.2.2.1
  have hts := hX.2.2.2.2
  have hr := B.returns
  have hlk := B.notSynchronized
  have hl := lv_entry ([.ref v0, .int v1]) (n := 2) (Nat.le_of_ble_eq_true rfl)
  rw [lg_entry_eq]
  generalize (lg_sl ([.ref v0, .int v1]) ++ List.replicate (2 - (lg_sl ([.ref v0, .int v1])).length) Slot.unset).toArray = ls at hl ⊢
  have hl : lv_has ls 2 [(0, .ref v0), (1, .int v1)] := hl
  unfold f_TR_digestOf at h
  refine lv_aload_n hx hb d_TR_digestOf_0 rfl (lv_at hl 0 rfl) ?_
  refine lv_aload_n hx hb d_TR_digestOf_1 rfl (lv_at hl 0 rfl) ?_
  refine g_TR_firstRow hX t_56 hWd hv0 d_TR_digestOf_2 ?_
  have q1 := v_TR_firstRow hWd hv0
  refine lv_iload_n hx hb d_TR_digestOf_5 rfl (lv_at hl 1 rfl) ?_
  obtain ⟨j2, hj2, h⟩ := ob h
  refine r_iald hX hWd q1 hj2 d_TR_digestOf_6 ?_
  refine lv_aload_n hx hb d_TR_digestOf_7 rfl (lv_at hl 0 rfl) ?_
  refine g_TR_endRow hX t_57 hWd hv0 d_TR_digestOf_8 ?_
  have q3 := v_TR_endRow hWd hv0
  refine lv_iload_n hx hb d_TR_digestOf_11 rfl (lv_at hl 1 rfl) ?_
  obtain ⟨j4, hj4, h⟩ := ob h
  refine r_iald hX hWd q3 hj4 d_TR_digestOf_12 ?_
  refine lv_aload_n hx hb d_TR_digestOf_13 rfl (lv_at hl 0 rfl) ?_
  refine g_TR_depth hX t_58 hWd hv0 d_TR_digestOf_14 ?_
  have q5 := v_TR_depth hWd hv0
  refine lv_iload_n hx hb d_TR_digestOf_17 rfl (lv_at hl 1 rfl) ?_
  obtain ⟨j6, hj6, h⟩ := ob h
  refine r_iald hX hWd q5 hj6 d_TR_digestOf_18 ?_
  obtain ⟨q7, hq7, h⟩ := ob h
  refine kc_l (va_runV (As := [.int (gi M (gr M v0 5) j2), .int (gi M (gr M v0 6) j4), .int (gi M (gr M v0 7) j6)]) (rest := []) hX (m_TR_branchDigest l (M_TR_writeReference l RD)  v0 (gi M (gr M v0 5) j2) (gi M (gr M v0 6) j4) (gi M (gr M v0 7) j6) hv0 hq7) (cb_TR_branchDigest hts t_236 ⟨by simp only [headSpec, rm_TR_digestOf, rm_TR_branchDigest, RD]; omega, by simp only [headSpec, rm_TR_digestOf, rm_TR_branchDigest, RD]; omega⟩) (pv_TR hWd hv0) rfl rfl hl.1 rfl (lv_room (Nat.le_of_ble_eq_true rfl)) d_TR_digestOf_19 ⟨Nat.zero_le _, Nat.zero_le _⟩) hWd (fun H locs hWd => ?_)
  obtain rfl := Option.some.inj h
  exact e_lret hX hr hlk hWd d_TR_digestOf_22
set_option maxHeartbeats 4000000 in
set_option maxRecDepth 100000 in
theorem m_TR_pathTo (l : Launch) {E : En} {K G : Nat → Nat} {L : List Nat} {M : Mm} {sz : Nat} {out : Int32} (v0 : Nat) (v1 : Int32) (hv0 : K v0 = 6) (h : f_TR_pathTo G v0 v1 M = some out) : Met l y_TR_pathTo w_TR_pathTo rm_TR_pathTo (va_Pc [.ref v0, .int v1] (Wp E K G L M sz)) (QI E K G L sz out M) 0 0 (AL L sz) := by
  refine Met.ofW (cc := b_TR_pathTo) (maxL := 2) (ret := (some .int)) (by decide) rfl ?_
  intro p e s m av below meth c s₁ B hml hv
  obtain ⟨rfl, hWp⟩ := hv
  have hWd := Wd.start hWp
  obtain ⟨rfl, -⟩ := hWp
  have hX : CallFix p m c b_TR_pathTo 2 s _ w_TR_pathTo "NibbleTrie$Trie" := ⟨B.exec, B.bytes, hml, findClass_of_methodNamed B.named, atoms_spec (ws := w_TR_pathTo) B.pre⟩
  have hx := hX.1
  have hb := hX.2.1
  have hown := hX.2.2.2.1
  have hts := hX.2.2.2.2
  have hr := B.returns
  have hlk := B.notSynchronized
  have hl := lv_entry ([.ref v0, .int v1]) (n := 2) (Nat.le_of_ble_eq_true rfl)
  rw [lg_entry_eq]
  generalize (lg_sl ([.ref v0, .int v1]) ++ List.replicate (2 - (lg_sl ([.ref v0, .int v1])).length) Slot.unset).toArray = ls at hl ⊢
  have hl : lv_has ls 2 [(0, .ref v0), (1, .int v1)] := hl
  unfold f_TR_pathTo at h
  refine lv_aload_n hx hb d_TR_pathTo_0 rfl (lv_at hl 0 rfl) ?_
  refine g_TR_map hX t_46 hWd hv0 d_TR_pathTo_1 ?_
  have q1 := v_TR_map hWd hv0
  refine g_PM_paths hX t_30 hWd q1 d_TR_pathTo_4 ?_
  have q2 := v_PM_paths hWd q1
  refine lv_aload_n hx hb d_TR_pathTo_7 rfl (lv_at hl 0 rfl) ?_
  refine g_TR_firstRow hX t_56 hWd hv0 d_TR_pathTo_8 ?_
  have q3 := v_TR_firstRow hWd hv0
  refine lv_iload_n hx hb d_TR_pathTo_11 rfl (lv_at hl 1 rfl) ?_
  obtain ⟨j4, hj4, h⟩ := ob h
  refine r_iald hX hWd q3 hj4 d_TR_pathTo_12 ?_
  obtain ⟨j5, hj5, h⟩ := ob h
  refine r_iald hX hWd q2 hj5 d_TR_pathTo_13 ?_
  refine lv_aload_n hx hb d_TR_pathTo_14 rfl (lv_at hl 0 rfl) ?_
  refine g_TR_depth hX t_58 hWd hv0 d_TR_pathTo_15 ?_
  have q6 := v_TR_depth hWd hv0
  refine lv_iload_n hx hb d_TR_pathTo_18 rfl (lv_at hl 1 rfl) ?_
  obtain ⟨j7, hj7, h⟩ := ob h
  refine r_iald hX hWd q6 hj7 d_TR_pathTo_19 ?_
  refine kp_i (va_runS (As := [.int (gi M (gr M (gr M v0 0) 0) j5), .int (gi M (gr M v0 7) j7)]) (rest := []) hX (m_PA_front l  (gi M (gr M (gr M v0 0) 0) j5) (gi M (gr M v0 7) j7) rfl) (cb_PA_front hts t_248 ⟨Nat.le_of_ble_eq_true rfl, Nat.le_of_ble_eq_true rfl⟩) preEq rfl rfl hl.1 rfl (lv_room (Nat.le_of_ble_eq_true rfl)) d_TR_pathTo_20 ⟨Nat.zero_le _, Nat.zero_le _⟩) ?_
  obtain rfl := Option.some.inj h
  exact e_iret hX hr hlk hWd d_TR_pathTo_23
set_option maxHeartbeats 4000000 in
set_option maxRecDepth 100000 in
theorem w_TR_writeProof_29 {p : Program} {l : Launch} {e : Env} {s : State} {m : MethodId} {args : Array Value} {below : List Frame} {meth : Method} {c : Code} {E : En} {K G : Nat → Nat} {L : List Nat} (hX : CallFix p m c b_TR_writeProof 6 s args w_TR_writeProof "NibbleTrie$Trie") (hr : meth.sig.returnType = (some .int)) (hlk : meth.locks = false) {out : Int32 × Mm} : ∀ (n : Nat) (v0 : Nat) (v1 : Int32) (v2 : Nat) (v4 : Int32) (v5 : Int32) (M : Mm) (H : Heap) (locs : List Loc) (ls : Array Slot), K v0 = 6 → K v2 = 2 → lv_has ls 6 [(0, .ref v0), (1, .int v1), (2, .ref v2), (4, .int v4), (5, .int v5)] → Wd E K G L M s.heap H locs s → f_TR_writeProof_29 G n v0 v1 v2 v4 v5 M = some out → W p l e rm_TR_writeProof s m args below meth c H locs 0 0 (MQ below (QI E K G L s.heap.size out.1 out.2) args s 0 0 (AL L s.heap.size)) (F0 m 29 ls []) := by
  have hx := hX.1
  have hb := hX.2.1
  have hown := hX.2.2.2.1
  have hts := hX.2.2.2.2
  intro n
  induction n with
  | zero => intro _ _ _ _ _ _ _ _ _ _ _ _ _ h; rw [f_TR_writeProof_29] at h; cases h
  | succ n ih =>
    intro v0 v1 v2 v4 v5 M H locs ls hv0 hv2 hl hWd h
    rw [f_TR_writeProof_29] at h
    refine lv_iload hx hb d_TR_writeProof_29 (lv_at hl 4 rfl) ?_
    refine lv_aload_n hx hb d_TR_writeProof_31 rfl (lv_at hl 0 rfl) ?_
    refine g_TR_branches hX t_52 hWd hv0 d_TR_writeProof_32 ?_
    refine lv_icmp_ge (tgt := 90) hx hb d_TR_writeProof_35 (by decide) (fun hc => ?_) (fun hc => ?_)
    · replace h := ifP h hc
      refine lv_iload hx hb d_TR_writeProof_90 (lv_at hl 3 rfl) ?_
      obtain rfl := Option.some.inj h
      exact e_iret hX hr hlk hWd d_TR_writeProof_92
    · replace h := ifN h hc
      refine lv_iload_n hx hb d_TR_writeProof_38 rfl (lv_at hl 1 rfl) ?_
      refine lv_aload_n hx hb d_TR_writeProof_39 rfl (lv_at hl 0 rfl) ?_
      refine lv_iload hx hb d_TR_writeProof_40 (lv_at hl 4 rfl) ?_
      obtain ⟨q1, hq1, h⟩ := ob h
      refine kc_i (va_runV (As := [.int v5]) (rest := [.int v1]) hX (m_TR_pathTo l  v0 v5 hv0 hq1) (cb_TR_pathTo hts t_343 ⟨Nat.le_of_ble_eq_true rfl, Nat.le_of_ble_eq_true rfl⟩) (pv_TR hWd hv0) rfl rfl hl.1 rfl (lv_room (Nat.le_of_ble_eq_true rfl)) d_TR_writeProof_42 ⟨Nat.zero_le _, Nat.zero_le _⟩) hWd (fun H locs hWd => ?_)
      refine kp_z (va_runS (As := [.int v1, .int q1]) (rest := []) hX (m_PA_begins l  v1 q1 rfl) (cb_PA_begins hts t_347 ⟨Nat.le_of_ble_eq_true rfl, Nat.le_of_ble_eq_true rfl⟩) preEq rfl rfl hl.1 rfl (lv_room (Nat.le_of_ble_eq_true rfl)) d_TR_writeProof_45 ⟨Nat.zero_le _, Nat.zero_le _⟩) (fun z2 => ?_)
      refine lv_if_eq (tgt := 84) hx hb d_TR_writeProof_48 (by decide) (fun hc => ?_) (fun hc => ?_)
      · replace h := ifP h hc
        refine lv_iinc (k := 4) (v := (v5 + 1)) (lv' := [(5, .int (v5 + 1)), (0, .ref v0), (1, .int v1), (2, .ref v2), (4, .int v4)]) hx hb d_TR_writeProof_84 hl rfl (by rfl) (by decide) rfl (fun ls hl => ?_)
        refine lv_goto (tgt := 29) hx hb d_TR_writeProof_87 (by decide) ?_
        exact ih v0 v1 v2 v4 (v5 + 1) M _ _ _ hv0 hv2 (lv_sub hl [1, 2, 3, 4, 0] rfl) hWd h
      · replace h := ifN h hc
        refine lv_iload hx hb d_TR_writeProof_51 (lv_at hl 3 rfl) ?_
        refine lv_aload_n hx hb d_TR_writeProof_53 rfl (lv_at hl 0 rfl) ?_
        refine lv_aload_n hx hb d_TR_writeProof_54 rfl (lv_at hl 0 rfl) ?_
        refine g_TR_firstRow hX t_56 hWd hv0 d_TR_writeProof_55 ?_
        have q3 := v_TR_firstRow hWd hv0
        refine lv_iload hx hb d_TR_writeProof_58 (lv_at hl 4 rfl) ?_
        obtain ⟨j4, hj4, h⟩ := ob h
        refine r_iald hX hWd q3 hj4 d_TR_writeProof_60 ?_
        refine lv_aload_n hx hb d_TR_writeProof_61 rfl (lv_at hl 0 rfl) ?_
        refine g_TR_endRow hX t_57 hWd hv0 d_TR_writeProof_62 ?_
        have q5 := v_TR_endRow hWd hv0
        refine lv_iload hx hb d_TR_writeProof_65 (lv_at hl 4 rfl) ?_
        obtain ⟨j6, hj6, h⟩ := ob h
        refine r_iald hX hWd q5 hj6 d_TR_writeProof_67 ?_
        refine lv_aload_n hx hb d_TR_writeProof_68 rfl (lv_at hl 0 rfl) ?_
        refine g_TR_depth hX t_58 hWd hv0 d_TR_writeProof_69 ?_
        have q7 := v_TR_depth hWd hv0
        refine lv_iload hx hb d_TR_writeProof_72 (lv_at hl 4 rfl) ?_
        obtain ⟨j8, hj8, h⟩ := ob h
        refine r_iald hX hWd q7 hj8 d_TR_writeProof_74 ?_
        refine lv_aload_n hx hb d_TR_writeProof_75 rfl (lv_at hl 2 rfl) ?_
        refine lv_iload hx hb d_TR_writeProof_76 (lv_at hl 3 rfl) ?_
        obtain ⟨q9, hq9, h⟩ := ob h
        refine kc_i (va_runV (As := [.int (gi M (gr M v0 5) j4), .int (gi M (gr M v0 6) j6), .int (gi M (gr M v0 7) j8), .ref v2, .int v4]) (rest := [.int v4]) hX (m_TR_writeBranch l (M_TR_writeReference l RD)  v0 (gi M (gr M v0 5) j4) (gi M (gr M v0 6) j6) (gi M (gr M v0 7) j8) v2 v4 hv0 hv2 hq9) (cb_TR_writeBranch hts t_240 ⟨by simp only [headSpec, rm_TR_writeProof, rm_TR_writeBranch, RD]; omega, by simp only [headSpec, rm_TR_writeProof, rm_TR_writeBranch, RD]; omega⟩) (pv_TR hWd hv0) rfl rfl hl.1 rfl (lv_room (Nat.le_of_ble_eq_true rfl)) d_TR_writeProof_78 ⟨Nat.zero_le _, Nat.zero_le _⟩) hWd (fun H locs hWd => ?_)
        refine lv_iadd hx hb d_TR_writeProof_81 ?_
        refine lv_istore (lv' := [(4, .int (v4 + q9.1)), (0, .ref v0), (1, .int v1), (2, .ref v2), (5, .int v5)]) hx hb d_TR_writeProof_82 hl (by decide) rfl (fun ls hl => ?_)
        refine lv_iinc (k := 4) (v := (v5 + 1)) (lv' := [(5, .int (v5 + 1)), (4, .int (v4 + q9.1)), (0, .ref v0), (1, .int v1), (2, .ref v2)]) hx hb d_TR_writeProof_84 hl rfl (by rfl) (by decide) rfl (fun ls hl => ?_)
        refine lv_goto (tgt := 29) hx hb d_TR_writeProof_87 (by decide) ?_
        exact ih v0 v1 v2 (v4 + q9.1) (v5 + 1) q9.2 _ _ _ hv0 hv2 (lv_sub hl [2, 3, 4, 1, 0] rfl) hWd h
set_option maxHeartbeats 4000000 in
set_option maxRecDepth 100000 in
theorem m_TR_writeProof (l : Launch) {E : En} {K G : Nat → Nat} {L : List Nat} {M : Mm} {sz : Nat} {out : Int32 × Mm} (v0 : Nat) (v1 : Int32) (v2 : Nat) (hv0 : K v0 = 6) (hv2 : K v2 = 2) (h : f_TR_writeProof G v0 v1 v2 M = some out) : Met l y_TR_writeProof w_TR_writeProof rm_TR_writeProof (va_Pc [.ref v0, .int v1, .ref v2] (Wp E K G L M sz)) (QI E K G L sz out.1 out.2) 0 0 (AL L sz) := by
  refine Met.ofW (cc := b_TR_writeProof) (maxL := 6) (ret := (some .int)) (by decide) rfl ?_
  intro p e s m av below meth c s₁ B hml hv
  obtain ⟨rfl, hWp⟩ := hv
  have hWd := Wd.start hWp
  obtain ⟨rfl, -⟩ := hWp
  have hX : CallFix p m c b_TR_writeProof 6 s _ w_TR_writeProof "NibbleTrie$Trie" := ⟨B.exec, B.bytes, hml, findClass_of_methodNamed B.named, atoms_spec (ws := w_TR_writeProof) B.pre⟩
  have hx := hX.1
  have hb := hX.2.1
  have hown := hX.2.2.2.1
  have hts := hX.2.2.2.2
  have hr := B.returns
  have hlk := B.notSynchronized
  have hl := lv_entry ([.ref v0, .int v1, .ref v2]) (n := 6) (Nat.le_of_ble_eq_true rfl)
  rw [lg_entry_eq]
  generalize (lg_sl ([.ref v0, .int v1, .ref v2]) ++ List.replicate (6 - (lg_sl ([.ref v0, .int v1, .ref v2])).length) Slot.unset).toArray = ls at hl ⊢
  have hl : lv_has ls 6 [(0, .ref v0), (1, .int v1), (2, .ref v2)] := hl
  unfold f_TR_writeProof at h
  refine lv_aload_n hx hb d_TR_writeProof_0 rfl (lv_at hl 0 rfl) ?_
  refine lv_iconst (v := 0) hx hb d_TR_writeProof_1 (by decide) ?_
  refine lv_aload_n hx hb d_TR_writeProof_2 rfl (lv_at hl 0 rfl) ?_
  refine g_TR_map hX t_46 hWd hv0 d_TR_writeProof_3 ?_
  have q1 := v_TR_map hWd hv0
  refine g_PM_rows hX t_35 hWd q1 d_TR_writeProof_6 ?_
  refine lv_iconst (v := 0) hx hb d_TR_writeProof_9 (by decide) ?_
  refine lv_aload_n hx hb d_TR_writeProof_10 rfl (lv_at hl 2 rfl) ?_
  refine lv_iconst (v := 1) hx hb d_TR_writeProof_11 (by decide) ?_
  obtain ⟨q2, hq2, h⟩ := ob h
  refine kc_i (va_runV (As := [.int 0, .int (gi M (gr M v0 0) 2), .int 0, .ref v2, .int 1]) (rest := []) hX (M_TR_writeReference l RD v0 0 (gi M (gr M v0 0) 2) 0 v2 1 hv0 hv2 hq2) (cb_TR_writeReference hts t_228 ⟨by simp only [headSpec, rm_TR_writeProof, rm_TR_writeReference, RD]; omega, by simp only [headSpec, rm_TR_writeProof, rm_TR_writeReference, RD]; omega⟩) (pv_TR hWd hv0) rfl rfl hl.1 rfl (lv_room (Nat.le_of_ble_eq_true rfl)) d_TR_writeProof_12 ⟨Nat.zero_le _, Nat.zero_le _⟩) hWd (fun H locs hWd => ?_)
  refine lv_istore_n (lv' := [(3, .int q2.1), (0, .ref v0), (1, .int v1), (2, .ref v2)]) hx hb d_TR_writeProof_15 rfl hl (by decide) rfl (fun ls hl => ?_)
  refine lv_aload_n hx hb d_TR_writeProof_16 rfl (lv_at hl 3 rfl) ?_
  refine lv_iconst (v := 0) hx hb d_TR_writeProof_17 (by decide) ?_
  refine lv_iload_n hx hb d_TR_writeProof_18 rfl (lv_at hl 0 rfl) ?_
  refine lv_i2l hx hb d_TR_writeProof_19 rfl ?_
  obtain ⟨j3, hj3, h⟩ := ob h
  refine r_last hX hWd hv2 hj3 d_TR_writeProof_20 (fun H locs hWd => ?_)
  obtain ⟨M4, eM4, h⟩ := stE h
  rw [← eM4] at hWd
  refine lv_iconst (v := 1) hx hb d_TR_writeProof_21 (by decide) ?_
  refine lv_iload_n hx hb d_TR_writeProof_22 rfl (lv_at hl 0 rfl) ?_
  refine lv_iadd hx hb d_TR_writeProof_23 ?_
  refine lv_istore (lv' := [(4, .int (1 + q2.1)), (3, .int q2.1), (0, .ref v0), (1, .int v1), (2, .ref v2)]) hx hb d_TR_writeProof_24 hl (by decide) rfl (fun ls hl => ?_)
  refine lv_iconst (v := 0) hx hb d_TR_writeProof_26 (by decide) ?_
  refine lv_istore (lv' := [(5, .int 0), (4, .int (1 + q2.1)), (3, .int q2.1), (0, .ref v0), (1, .int v1), (2, .ref v2)]) hx hb d_TR_writeProof_27 hl (by decide) rfl (fun ls hl => ?_)
  exact w_TR_writeProof_29 hX hr hlk FU v0 v1 v2 (1 + q2.1) 0 M4 _ _ _ hv0 hv2 (lv_sub hl [3, 4, 5, 1, 0] rfl) hWd h
set_option maxHeartbeats 4000000 in
set_option maxRecDepth 100000 in
theorem w_TR_isSame_38 {p : Program} {l : Launch} {e : Env} {s : State} {m : MethodId} {args : Array Value} {below : List Frame} {meth : Method} {c : Code} {E : En} {K G : Nat → Nat} {L : List Nat} (hX : CallFix p m c b_TR_isSame 10 s args w_TR_isSame "NibbleTrie$Trie") (hr : meth.sig.returnType = (some .boolean)) (hlk : meth.locks = false) {out : Int32} : ∀ (n : Nat) (v0 : Nat) (v1 : Int32) (v2 : Nat) (v3 : Int32) (v4 : Int32) (v5 : Int32) (M : Mm) (H : Heap) (locs : List Loc) (ls : Array Slot), K v0 = 6 → K v2 = 6 → lv_has ls 10 [(0, .ref v0), (1, .int v1), (2, .ref v2), (3, .int v3), (4, .int v4), (5, .int v5)] → Wd E K G L M s.heap H locs s → f_TR_isSame_38 G n v0 v1 v2 v3 v4 v5 M = some out → W p l e rm_TR_isSame s m args below meth c H locs 0 0 (MQ below (QZ E K G L s.heap.size out M) args s 0 0 (AL L s.heap.size)) (F0 m 38 ls []) := by
  have hx := hX.1
  have hb := hX.2.1
  have hown := hX.2.2.2.1
  have hts := hX.2.2.2.2
  intro n
  induction n with
  | zero => intro _ _ _ _ _ _ _ _ _ _ _ _ _ _ h; rw [f_TR_isSame_38] at h; cases h
  | succ n ih =>
    intro v0 v1 v2 v3 v4 v5 M H locs ls hv0 hv2 hl hWd h
    rw [f_TR_isSame_38] at h
    refine lv_iload hx hb d_TR_isSame_38 (lv_at hl 5 rfl) ?_
    refine lv_iload hx hb d_TR_isSame_40 (lv_at hl 4 rfl) ?_
    refine lv_icmp_ge (tgt := 147) hx hb d_TR_isSame_42 (by decide) (fun hc => ?_) (fun hc => ?_)
    · replace h := ifP h hc
      refine lv_iconst (v := 1) hx hb d_TR_isSame_147 (by decide) ?_
      obtain rfl := Option.some.inj h
      exact e_zret hX hr hlk hWd (Or.inr rfl) d_TR_isSame_148
    · replace h := ifN h hc
      refine lv_aload_n hx hb d_TR_isSame_45 rfl (lv_at hl 0 rfl) ?_
      refine g_TR_firstRow hX t_56 hWd hv0 d_TR_isSame_46 ?_
      have q1 := v_TR_firstRow hWd hv0
      refine lv_iload_n hx hb d_TR_isSame_49 rfl (lv_at hl 1 rfl) ?_
      obtain ⟨j2, hj2, h⟩ := ob h
      refine r_iald hX hWd q1 hj2 d_TR_isSame_50 ?_
      refine lv_iload hx hb d_TR_isSame_51 (lv_at hl 5 rfl) ?_
      refine lv_iadd hx hb d_TR_isSame_53 ?_
      refine lv_topi (fun x3 ex3 => ?_)
      replace h := stA h ex3
      refine lv_istore (lv' := [(6, .int x3), (0, .ref v0), (1, .int v1), (2, .ref v2), (3, .int v3), (4, .int v4), (5, .int v5)]) hx hb d_TR_isSame_54 hl (by decide) rfl (fun ls hl => ?_)
      refine lv_aload_n hx hb d_TR_isSame_56 rfl (lv_at hl 3 rfl) ?_
      refine g_TR_firstRow hX t_56 hWd hv2 d_TR_isSame_57 ?_
      have q4 := v_TR_firstRow hWd hv2
      refine lv_iload_n hx hb d_TR_isSame_60 rfl (lv_at hl 4 rfl) ?_
      obtain ⟨j5, hj5, h⟩ := ob h
      refine r_iald hX hWd q4 hj5 d_TR_isSame_61 ?_
      refine lv_iload hx hb d_TR_isSame_62 (lv_at hl 6 rfl) ?_
      refine lv_iadd hx hb d_TR_isSame_64 ?_
      refine lv_topi (fun x6 ex6 => ?_)
      replace h := stA h ex6
      refine lv_istore (lv' := [(7, .int x6), (6, .int x3), (0, .ref v0), (1, .int v1), (2, .ref v2), (3, .int v3), (4, .int v4), (5, .int v5)]) hx hb d_TR_isSame_65 hl (by decide) rfl (fun ls hl => ?_)
      refine lv_aload_n hx hb d_TR_isSame_67 rfl (lv_at hl 2 rfl) ?_
      refine g_TR_map hX t_46 hWd hv0 d_TR_isSame_68 ?_
      have q7 := v_TR_map hWd hv0
      refine g_PM_paths hX t_30 hWd q7 d_TR_isSame_71 ?_
      have q8 := v_PM_paths hWd q7
      refine lv_iload hx hb d_TR_isSame_74 (lv_at hl 1 rfl) ?_
      obtain ⟨j9, hj9, h⟩ := ob h
      refine r_iald hX hWd q8 hj9 d_TR_isSame_76 ?_
      refine lv_aload_n hx hb d_TR_isSame_77 rfl (lv_at hl 2 rfl) ?_
      refine g_TR_depth hX t_58 hWd hv0 d_TR_isSame_78 ?_
      have q10 := v_TR_depth hWd hv0
      refine lv_iload_n hx hb d_TR_isSame_81 rfl (lv_at hl 3 rfl) ?_
      obtain ⟨j11, hj11, h⟩ := ob h
      refine r_iald hX hWd q10 hj11 d_TR_isSame_82 ?_
      refine kp_i (va_runS (As := [.int (gi M (gr M (gr M v0 0) 0) j9), .int (gi M (gr M v0 7) j11)]) (rest := []) hX (m_PA_without l  (gi M (gr M (gr M v0 0) 0) j9) (gi M (gr M v0 7) j11) rfl) (cb_PA_without hts t_233 ⟨Nat.le_of_ble_eq_true rfl, Nat.le_of_ble_eq_true rfl⟩) preEq rfl rfl hl.1 rfl (lv_room (Nat.le_of_ble_eq_true rfl)) d_TR_isSame_83 ⟨Nat.zero_le _, Nat.zero_le _⟩) ?_
      refine lv_topi (fun x12 ex12 => ?_)
      replace h := stA h ex12
      refine lv_istore (lv' := [(8, .int x12), (7, .int x6), (6, .int x3), (0, .ref v0), (1, .int v1), (2, .ref v2), (3, .int v3), (4, .int v4), (5, .int v5)]) hx hb d_TR_isSame_86 hl (by decide) rfl (fun ls hl => ?_)
      refine lv_aload_n hx hb d_TR_isSame_88 rfl (lv_at hl 5 rfl) ?_
      refine g_TR_map hX t_46 hWd hv2 d_TR_isSame_89 ?_
      have q13 := v_TR_map hWd hv2
      refine g_PM_paths hX t_30 hWd q13 d_TR_isSame_92 ?_
      have q14 := v_PM_paths hWd q13
      refine lv_iload hx hb d_TR_isSame_95 (lv_at hl 1 rfl) ?_
      obtain ⟨j15, hj15, h⟩ := ob h
      refine r_iald hX hWd q14 hj15 d_TR_isSame_97 ?_
      refine lv_aload_n hx hb d_TR_isSame_98 rfl (lv_at hl 5 rfl) ?_
      refine g_TR_depth hX t_58 hWd hv2 d_TR_isSame_99 ?_
      have q16 := v_TR_depth hWd hv2
      refine lv_iload_n hx hb d_TR_isSame_102 rfl (lv_at hl 6 rfl) ?_
      obtain ⟨j17, hj17, h⟩ := ob h
      refine r_iald hX hWd q16 hj17 d_TR_isSame_103 ?_
      refine kp_i (va_runS (As := [.int (gi M (gr M (gr M v2 0) 0) j15), .int (gi M (gr M v2 7) j17)]) (rest := []) hX (m_PA_without l  (gi M (gr M (gr M v2 0) 0) j15) (gi M (gr M v2 7) j17) rfl) (cb_PA_without hts t_233 ⟨Nat.le_of_ble_eq_true rfl, Nat.le_of_ble_eq_true rfl⟩) preEq rfl rfl hl.1 rfl (lv_room (Nat.le_of_ble_eq_true rfl)) d_TR_isSame_104 ⟨Nat.zero_le _, Nat.zero_le _⟩) ?_
      refine lv_topi (fun x18 ex18 => ?_)
      replace h := stA h ex18
      refine lv_istore (lv' := [(9, .int x18), (8, .int x12), (7, .int x6), (6, .int x3), (0, .ref v0), (1, .int v1), (2, .ref v2), (3, .int v3), (4, .int v4), (5, .int v5)]) hx hb d_TR_isSame_107 hl (by decide) rfl (fun ls hl => ?_)
      refine lv_iload hx hb d_TR_isSame_109 (lv_at hl 1 rfl) ?_
      refine lv_iload hx hb d_TR_isSame_111 (lv_at hl 0 rfl) ?_
      refine lv_icmp_ne (tgt := 139) hx hb d_TR_isSame_113 (by decide) (fun hc => ?_) (fun hc => ?_)
      · replace h := ifN h hc
        refine lv_iconst (v := 0) hx hb d_TR_isSame_139 (by decide) ?_
        obtain rfl := Option.some.inj h
        exact e_zret hX hr hlk hWd (Or.inl rfl) d_TR_isSame_140
      · replace h := ifP h hc
        refine lv_aload_n hx hb d_TR_isSame_116 rfl (lv_at hl 4 rfl) ?_
        refine g_TR_map hX t_46 hWd hv0 d_TR_isSame_117 ?_
        have q19 := v_TR_map hWd hv0
        refine g_PM_values hX t_32 hWd q19 d_TR_isSame_120 ?_
        have q20 := v_PM_values hWd q19
        refine lv_iload hx hb d_TR_isSame_123 (lv_at hl 3 rfl) ?_
        obtain ⟨j21, hj21, h⟩ := ob h
        refine r_iald hX hWd q20 hj21 d_TR_isSame_125 ?_
        refine lv_aload_n hx hb d_TR_isSame_126 rfl (lv_at hl 6 rfl) ?_
        refine g_TR_map hX t_46 hWd hv2 d_TR_isSame_127 ?_
        have q22 := v_TR_map hWd hv2
        refine g_PM_values hX t_32 hWd q22 d_TR_isSame_130 ?_
        have q23 := v_PM_values hWd q22
        refine lv_iload hx hb d_TR_isSame_133 (lv_at hl 2 rfl) ?_
        obtain ⟨j24, hj24, h⟩ := ob h
        refine r_iald hX hWd q23 hj24 d_TR_isSame_135 ?_
        refine lv_icmp_eq (tgt := 141) hx hb d_TR_isSame_136 (by decide) (fun hc => ?_) (fun hc => ?_)
        · replace h := ifP h hc
          refine lv_iinc (k := 9) (v := (v5 + 1)) (lv' := [(5, .int (v5 + 1)), (9, .int x18), (8, .int x12), (7, .int x6), (6, .int x3), (0, .ref v0), (1, .int v1), (2, .ref v2), (3, .int v3), (4, .int v4)]) hx hb d_TR_isSame_141 hl rfl (by rfl) (by decide) rfl (fun ls hl => ?_)
          refine lv_goto (tgt := 38) hx hb d_TR_isSame_144 (by decide) ?_
          exact ih v0 v1 v2 v3 v4 (v5 + 1) M _ _ _ hv0 hv2 (lv_sub hl [5, 6, 7, 8, 9, 0] rfl) hWd h
        · replace h := ifN h hc
          refine lv_iconst (v := 0) hx hb d_TR_isSame_139 (by decide) ?_
          obtain rfl := Option.some.inj h
          exact e_zret hX hr hlk hWd (Or.inl rfl) d_TR_isSame_140
set_option maxHeartbeats 4000000 in
set_option maxRecDepth 100000 in
theorem m_TR_isSame (l : Launch) {E : En} {K G : Nat → Nat} {L : List Nat} {M : Mm} {sz : Nat} {out : Int32} (v0 : Nat) (v1 : Int32) (v2 : Nat) (v3 : Int32) (hv0 : K v0 = 6) (hv2 : K v2 = 6) (h : f_TR_isSame G v0 v1 v2 v3 M = some out) : Met l y_TR_isSame w_TR_isSame rm_TR_isSame (va_Pc [.ref v0, .int v1, .ref v2, .int v3] (Wp E K G L M sz)) (QZ E K G L sz out M) 0 0 (AL L sz) := by
  refine Met.ofW (cc := b_TR_isSame) (maxL := 10) (ret := (some .boolean)) (by decide) rfl ?_
  intro p e s m av below meth c s₁ B hml hv
  obtain ⟨rfl, hWp⟩ := hv
  have hWd := Wd.start hWp
  obtain ⟨rfl, -⟩ := hWp
  have hX : CallFix p m c b_TR_isSame 10 s _ w_TR_isSame "NibbleTrie$Trie" := ⟨B.exec, B.bytes, hml, findClass_of_methodNamed B.named, atoms_spec (ws := w_TR_isSame) B.pre⟩
  have hx := hX.1
  have hb := hX.2.1
  have hown := hX.2.2.2.1
  have hts := hX.2.2.2.2
  have hr := B.returns
  have hlk := B.notSynchronized
  have hl := lv_entry ([.ref v0, .int v1, .ref v2, .int v3]) (n := 10) (Nat.le_of_ble_eq_true rfl)
  rw [lg_entry_eq]
  generalize (lg_sl ([.ref v0, .int v1, .ref v2, .int v3]) ++ List.replicate (10 - (lg_sl ([.ref v0, .int v1, .ref v2, .int v3])).length) Slot.unset).toArray = ls at hl ⊢
  have hl : lv_has ls 10 [(0, .ref v0), (1, .int v1), (2, .ref v2), (3, .int v3)] := hl
  unfold f_TR_isSame at h
  refine lv_aload_n hx hb d_TR_isSame_0 rfl (lv_at hl 0 rfl) ?_
  refine g_TR_endRow hX t_57 hWd hv0 d_TR_isSame_1 ?_
  have q1 := v_TR_endRow hWd hv0
  refine lv_iload_n hx hb d_TR_isSame_4 rfl (lv_at hl 1 rfl) ?_
  obtain ⟨j2, hj2, h⟩ := ob h
  refine r_iald hX hWd q1 hj2 d_TR_isSame_5 ?_
  refine lv_aload_n hx hb d_TR_isSame_6 rfl (lv_at hl 0 rfl) ?_
  refine g_TR_firstRow hX t_56 hWd hv0 d_TR_isSame_7 ?_
  have q3 := v_TR_firstRow hWd hv0
  refine lv_iload_n hx hb d_TR_isSame_10 rfl (lv_at hl 1 rfl) ?_
  obtain ⟨j4, hj4, h⟩ := ob h
  refine r_iald hX hWd q3 hj4 d_TR_isSame_11 ?_
  refine lv_isub hx hb d_TR_isSame_12 ?_
  refine lv_topi (fun x5 ex5 => ?_)
  replace h := stA h ex5
  refine lv_istore (lv' := [(4, .int x5), (0, .ref v0), (1, .int v1), (2, .ref v2), (3, .int v3)]) hx hb d_TR_isSame_13 hl (by decide) rfl (fun ls hl => ?_)
  refine lv_iload hx hb d_TR_isSame_15 (lv_at hl 0 rfl) ?_
  refine lv_aload_n hx hb d_TR_isSame_17 rfl (lv_at hl 3 rfl) ?_
  refine g_TR_endRow hX t_57 hWd hv2 d_TR_isSame_18 ?_
  have q6 := v_TR_endRow hWd hv2
  refine lv_iload_n hx hb d_TR_isSame_21 rfl (lv_at hl 4 rfl) ?_
  obtain ⟨j7, hj7, h⟩ := ob h
  refine r_iald hX hWd q6 hj7 d_TR_isSame_22 ?_
  refine lv_aload_n hx hb d_TR_isSame_23 rfl (lv_at hl 3 rfl) ?_
  refine g_TR_firstRow hX t_56 hWd hv2 d_TR_isSame_24 ?_
  have q8 := v_TR_firstRow hWd hv2
  refine lv_iload_n hx hb d_TR_isSame_27 rfl (lv_at hl 4 rfl) ?_
  obtain ⟨j9, hj9, h⟩ := ob h
  refine r_iald hX hWd q8 hj9 d_TR_isSame_28 ?_
  refine lv_isub hx hb d_TR_isSame_29 ?_
  refine lv_icmp_eq (tgt := 35) hx hb d_TR_isSame_30 (by decide) (fun hc => ?_) (fun hc => ?_)
  · replace h := ifP h hc
    refine lv_iconst (v := 0) hx hb d_TR_isSame_35 (by decide) ?_
    refine lv_istore (lv' := [(5, .int 0), (4, .int x5), (0, .ref v0), (1, .int v1), (2, .ref v2), (3, .int v3)]) hx hb d_TR_isSame_36 hl (by decide) rfl (fun ls hl => ?_)
    exact w_TR_isSame_38 hX hr hlk FU v0 v1 v2 v3 x5 0 M _ _ _ hv0 hv2 (lv_sub hl [2, 3, 4, 5, 1, 0] rfl) hWd h
  · replace h := ifN h hc
    refine lv_iconst (v := 0) hx hb d_TR_isSame_33 (by decide) ?_
    obtain rfl := Option.some.inj h
    exact e_zret hX hr hlk hWd (Or.inl rfl) d_TR_isSame_34
set_option maxHeartbeats 4000000 in
set_option maxRecDepth 100000 in
theorem w_TR_hasAmongFirst_3 {p : Program} {l : Launch} {e : Env} {s : State} {m : MethodId} {args : Array Value} {below : List Frame} {meth : Method} {c : Code} {E : En} {K G : Nat → Nat} {L : List Nat} (hX : CallFix p m c b_TR_hasAmongFirst 5 s args w_TR_hasAmongFirst "NibbleTrie$Trie") (hr : meth.sig.returnType = (some .boolean)) (hlk : meth.locks = false) {out : Int32} : ∀ (n : Nat) (v0 : Nat) (v1 : Int32) (v2 : Nat) (v3 : Int32) (v4 : Int32) (M : Mm) (H : Heap) (locs : List Loc) (ls : Array Slot), K v0 = 6 → K v2 = 6 → lv_has ls 5 [(0, .ref v0), (1, .int v1), (2, .ref v2), (3, .int v3), (4, .int v4)] → Wd E K G L M s.heap H locs s → f_TR_hasAmongFirst_3 G n v0 v1 v2 v3 v4 M = some out → W p l e rm_TR_hasAmongFirst s m args below meth c H locs 0 0 (MQ below (QZ E K G L s.heap.size out M) args s 0 0 (AL L s.heap.size)) (F0 m 3 ls []) := by
  have hx := hX.1
  have hb := hX.2.1
  have hown := hX.2.2.2.1
  have hts := hX.2.2.2.2
  intro n
  induction n with
  | zero => intro _ _ _ _ _ _ _ _ _ _ _ _ _ h; rw [f_TR_hasAmongFirst_3] at h; cases h
  | succ n ih =>
    intro v0 v1 v2 v3 v4 M H locs ls hv0 hv2 hl hWd h
    rw [f_TR_hasAmongFirst_3] at h
    refine lv_iload hx hb d_TR_hasAmongFirst_3 (lv_at hl 4 rfl) ?_
    refine lv_iload_n hx hb d_TR_hasAmongFirst_5 rfl (lv_at hl 1 rfl) ?_
    refine lv_icmp_ge (tgt := 28) hx hb d_TR_hasAmongFirst_6 (by decide) (fun hc => ?_) (fun hc => ?_)
    · replace h := ifP h hc
      refine lv_iconst (v := 0) hx hb d_TR_hasAmongFirst_28 (by decide) ?_
      obtain rfl := Option.some.inj h
      exact e_zret hX hr hlk hWd (Or.inl rfl) d_TR_hasAmongFirst_29
    · replace h := ifN h hc
      refine lv_aload_n hx hb d_TR_hasAmongFirst_9 rfl (lv_at hl 0 rfl) ?_
      refine lv_iload hx hb d_TR_hasAmongFirst_10 (lv_at hl 4 rfl) ?_
      refine lv_aload_n hx hb d_TR_hasAmongFirst_12 rfl (lv_at hl 2 rfl) ?_
      refine lv_iload_n hx hb d_TR_hasAmongFirst_13 rfl (lv_at hl 3 rfl) ?_
      obtain ⟨q1, hq1, h⟩ := ob h
      refine kc_z (va_runV (As := [.int v4, .ref v2, .int v3]) (rest := []) hX (m_TR_isSame l  v0 v4 v2 v3 hv0 hv2 hq1) (cb_TR_isSame hts t_267 ⟨Nat.le_of_ble_eq_true rfl, Nat.le_of_ble_eq_true rfl⟩) (pv_TR hWd hv0) rfl rfl hl.1 rfl (lv_room (Nat.le_of_ble_eq_true rfl)) d_TR_hasAmongFirst_14 ⟨Nat.zero_le _, Nat.zero_le _⟩) hWd (fun z2 H locs hWd => ?_)
      refine lv_if_eq (tgt := 22) hx hb d_TR_hasAmongFirst_17 (by decide) (fun hc => ?_) (fun hc => ?_)
      · replace h := ifP h hc
        refine lv_iinc (k := 4) (v := (v4 + 1)) (lv' := [(4, .int (v4 + 1)), (0, .ref v0), (1, .int v1), (2, .ref v2), (3, .int v3)]) hx hb d_TR_hasAmongFirst_22 hl rfl (by rfl) (by decide) rfl (fun ls hl => ?_)
        refine lv_goto (tgt := 3) hx hb d_TR_hasAmongFirst_25 (by decide) ?_
        exact ih v0 v1 v2 v3 (v4 + 1) M _ _ _ hv0 hv2 (lv_sub hl [1, 2, 3, 4, 0] rfl) hWd h
      · replace h := ifN h hc
        refine lv_iconst (v := 1) hx hb d_TR_hasAmongFirst_20 (by decide) ?_
        obtain rfl := Option.some.inj h
        exact e_zret hX hr hlk hWd (Or.inr rfl) d_TR_hasAmongFirst_21
set_option maxHeartbeats 4000000 in
set_option maxRecDepth 100000 in
theorem m_TR_hasAmongFirst (l : Launch) {E : En} {K G : Nat → Nat} {L : List Nat} {M : Mm} {sz : Nat} {out : Int32} (v0 : Nat) (v1 : Int32) (v2 : Nat) (v3 : Int32) (hv0 : K v0 = 6) (hv2 : K v2 = 6) (h : f_TR_hasAmongFirst G v0 v1 v2 v3 M = some out) : Met l y_TR_hasAmongFirst w_TR_hasAmongFirst rm_TR_hasAmongFirst (va_Pc [.ref v0, .int v1, .ref v2, .int v3] (Wp E K G L M sz)) (QZ E K G L sz out M) 0 0 (AL L sz) := by
  refine Met.ofW (cc := b_TR_hasAmongFirst) (maxL := 5) (ret := (some .boolean)) (by decide) rfl ?_
  intro p e s m av below meth c s₁ B hml hv
  obtain ⟨rfl, hWp⟩ := hv
  have hWd := Wd.start hWp
  obtain ⟨rfl, -⟩ := hWp
  have hX : CallFix p m c b_TR_hasAmongFirst 5 s _ w_TR_hasAmongFirst "NibbleTrie$Trie" := ⟨B.exec, B.bytes, hml, findClass_of_methodNamed B.named, atoms_spec (ws := w_TR_hasAmongFirst) B.pre⟩
  have hx := hX.1
  have hb := hX.2.1
  have hown := hX.2.2.2.1
  have hts := hX.2.2.2.2
  have hr := B.returns
  have hlk := B.notSynchronized
  have hl := lv_entry ([.ref v0, .int v1, .ref v2, .int v3]) (n := 5) (Nat.le_of_ble_eq_true rfl)
  rw [lg_entry_eq]
  generalize (lg_sl ([.ref v0, .int v1, .ref v2, .int v3]) ++ List.replicate (5 - (lg_sl ([.ref v0, .int v1, .ref v2, .int v3])).length) Slot.unset).toArray = ls at hl ⊢
  have hl : lv_has ls 5 [(0, .ref v0), (1, .int v1), (2, .ref v2), (3, .int v3)] := hl
  unfold f_TR_hasAmongFirst at h
  refine lv_iconst (v := 0) hx hb d_TR_hasAmongFirst_0 (by decide) ?_
  refine lv_istore (lv' := [(4, .int 0), (0, .ref v0), (1, .int v1), (2, .ref v2), (3, .int v3)]) hx hb d_TR_hasAmongFirst_1 hl (by decide) rfl (fun ls hl => ?_)
  exact w_TR_hasAmongFirst_3 hX hr hlk FU v0 v1 v2 v3 0 M _ _ _ hv0 hv2 (lv_sub hl [1, 2, 3, 4, 0] rfl) hWd h
