/-! the walks of these methods, by program out of the bytecode -/
set_option maxHeartbeats 4000000 in
set_option maxRecDepth 100000 in
theorem w_NT_digest_6 {p : Program} {l : Launch} {e : Env} {s : State} {m : MethodId} {args : Array Value} {below : List Frame} {meth : Method} {c : Code} {E : En} {K G : Nat → Nat} {L : List Nat} (hX : CallFix p m c b_NT_digest 6 s args w_NT_digest "NibbleTrie") (hr : meth.sig.returnType = (some .long)) (hlk : meth.locks = false) {out : Int64} : ∀ (n : Nat) (v0 : Nat) (v1 : Int32) (v2 : Int32) (v3 : Int64) (v5 : Int32) (M : Mm) (H : Heap) (locs : List Loc) (ls : Array Slot), K v0 = 2 → lv_has ls 6 [(0, .ref v0), (1, .int v1), (2, .int v2), (3, .long v3), (5, .int v5)] → Wd E K G L M s.heap H locs s → f_NT_digest_6 G n v0 v1 v2 v3 v5 M = some out → W p l e rm_NT_digest s m args below meth c H locs 0 0 (MQ below (QL E K G L s.heap.size out M) args s 0 0 (AL L s.heap.size)) (F0 m 6 ls []) := by
  have hx := hX.1
  have hb := hX.2.1
  have hown := hX.2.2.2.1
  have hts := hX.2.2.2.2
  intro n
  induction n with
  | zero => intro _ _ _ _ _ _ _ _ _ _ _ _ h; rw [f_NT_digest_6] at h; cases h
  | succ n ih =>
    intro v0 v1 v2 v3 v5 M H locs ls hv0 hl hWd h
    rw [f_NT_digest_6] at h
    refine lv_iload hx hb d_NT_digest_6 (lv_at hl 4 rfl) ?_
    refine lv_iload_n hx hb d_NT_digest_8 rfl (lv_at hl 1 rfl) ?_
    refine lv_iload_n hx hb d_NT_digest_9 rfl (lv_at hl 2 rfl) ?_
    refine lv_iadd hx hb d_NT_digest_10 ?_
    refine lv_icmp_ge (tgt := 38) hx hb d_NT_digest_11 (by decide) (fun hc => ?_) (fun hc => ?_)
    · replace h := ifP h hc
      refine lv_lload_n hx hb d_NT_digest_38 rfl (lv_at hl 3 rfl) ?_
      obtain rfl := Option.some.inj h
      exact e_lret hX hr hlk hWd d_NT_digest_39
    · replace h := ifN h hc
      refine lv_lload_n hx hb d_NT_digest_14 rfl (lv_at hl 3 rfl) ?_
      refine lv_aload_n hx hb d_NT_digest_15 rfl (lv_at hl 0 rfl) ?_
      refine lv_iload hx hb d_NT_digest_16 (lv_at hl 4 rfl) ?_
      obtain ⟨j1, hj1, h⟩ := ob h
      refine r_lald hX hWd hv0 hj1 d_NT_digest_18 ?_
      refine lv_lxor hx hb d_NT_digest_19 ?_
      refine lv_ldc2 (v := (-7046029254386353131)) hx hb hown (hts _ (List.mem_cons_of_mem _ t_247)) d_NT_digest_20 ?_
      refine lv_lmul hx hb d_NT_digest_23 ?_
      refine lv_topl (fun x2 ex2 => ?_)
      replace h := stA h ex2
      refine lv_lstore_n (lv' := [(3, .long x2), (0, .ref v0), (1, .int v1), (2, .int v2), (5, .int v5)]) hx hb d_NT_digest_24 rfl hl (by decide) rfl (fun ls hl => ?_)
      refine lv_lload_n hx hb d_NT_digest_25 rfl (lv_at hl 0 rfl) ?_
      refine lv_lload_n hx hb d_NT_digest_26 rfl (lv_at hl 0 rfl) ?_
      refine lv_bipush (v := 29) hx hb d_NT_digest_27 (by decide) ?_
      refine lv_lushr hx hb d_NT_digest_29 rfl ?_
      refine lv_lxor hx hb d_NT_digest_30 ?_
      refine lv_topl (fun x3 ex3 => ?_)
      replace h := stA h ex3
      refine lv_lstore_n (lv' := [(3, .long x3), (0, .ref v0), (1, .int v1), (2, .int v2), (5, .int v5)]) hx hb d_NT_digest_31 rfl hl (by decide) rfl (fun ls hl => ?_)
      refine lv_iinc (k := 4) (v := (v5 + 1)) (lv' := [(5, .int (v5 + 1)), (3, .long x3), (0, .ref v0), (1, .int v1), (2, .int v2)]) hx hb d_NT_digest_32 hl rfl (by rfl) (by decide) rfl (fun ls hl => ?_)
      refine lv_goto (tgt := 6) hx hb d_NT_digest_35 (by decide) ?_
      exact ih v0 v1 v2 x3 (v5 + 1) M _ _ _ hv0 (lv_sub hl [2, 3, 4, 1, 0] rfl) hWd h
set_option maxHeartbeats 4000000 in
set_option maxRecDepth 100000 in
theorem m_NT_digest (l : Launch) {E : En} {K G : Nat → Nat} {L : List Nat} {M : Mm} {sz : Nat} {out : Int64} (v0 : Nat) (v1 : Int32) (v2 : Int32) (hv0 : K v0 = 2) (h : f_NT_digest G v0 v1 v2 M = some out) : Met l y_NT_digest w_NT_digest rm_NT_digest (va_Pc [.ref v0, .int v1, .int v2] (Wp E K G L M sz)) (QL E K G L sz out M) 0 0 (AL L sz) := by
  refine Met.ofW (cc := b_NT_digest) (maxL := 6) (ret := (some .long)) (by decide) rfl ?_
  intro p e s m av below meth c s₁ B hml hv
  obtain ⟨rfl, hWp⟩ := hv
  have hWd := Wd.start hWp
  obtain ⟨rfl, -⟩ := hWp
  have hX : CallFix p m c b_NT_digest 6 s _ w_NT_digest "NibbleTrie" := ⟨B.exec, B.bytes, hml, findClass_of_methodNamed B.named, atoms_spec (ws := w_NT_digest) B.pre⟩
  have hx := hX.1
  have hb := hX.2.1
  have hown := hX.2.2.2.1
  have hts := hX.2.2.2.2
  have hr := B.returns
  have hlk := B.notSynchronized
  have hl := lv_entry ([.ref v0, .int v1, .int v2]) (n := 6) (Nat.le_of_ble_eq_true rfl)
  rw [lg_entry_eq]
  generalize (lg_sl ([.ref v0, .int v1, .int v2]) ++ List.replicate (6 - (lg_sl ([.ref v0, .int v1, .int v2])).length) Slot.unset).toArray = ls at hl ⊢
  have hl : lv_has ls 6 [(0, .ref v0), (1, .int v1), (2, .int v2)] := hl
  unfold f_NT_digest at h
  refine lv_iload_n hx hb d_NT_digest_0 rfl (lv_at hl 2 rfl) ?_
  refine lv_i2l hx hb d_NT_digest_1 rfl ?_
  refine lv_lstore_n (lv' := [(3, .long (v2.toInt64)), (0, .ref v0), (1, .int v1), (2, .int v2)]) hx hb d_NT_digest_2 rfl hl (by decide) rfl (fun ls hl => ?_)
  refine lv_iload_n hx hb d_NT_digest_3 rfl (lv_at hl 2 rfl) ?_
  refine lv_istore (lv' := [(5, .int v1), (3, .long (v2.toInt64)), (0, .ref v0), (1, .int v1), (2, .int v2)]) hx hb d_NT_digest_4 hl (by decide) rfl (fun ls hl => ?_)
  exact w_NT_digest_6 hX hr hlk FU v0 v1 v2 (v2.toInt64) v1 M _ _ _ hv0 (lv_sub hl [2, 3, 4, 1, 0] rfl) hWd h
set_option maxHeartbeats 4000000 in
set_option maxRecDepth 100000 in
theorem m_PF_has (l : Launch) {E : En} {K G : Nat → Nat} {L : List Nat} {M : Mm} {sz : Nat} {out : Int32} (v0 : Nat) (v1 : Int32) (hv0 : K v0 = 8) (h : f_PF_has G v0 v1 M = out) : Met l y_PF_has w_PF_has rm_PF_has (va_Pc [.ref v0, .int v1] (Wp E K G L M sz)) (QZ E K G L sz out M) 0 0 (AL L sz) := by
  refine Met.ofW (cc := b_PF_has) (maxL := 2) (ret := (some .boolean)) (by decide) rfl ?_
  intro p e s m av below meth c s₁ B hml hv
  obtain ⟨rfl, hWp⟩ := hv
  have hWd := Wd.start hWp
  obtain ⟨rfl, -⟩ := hWp
  have hX : CallFix p m c b_PF_has 2 s _ w_PF_has "NibbleTrie$Proof" := ⟨B.exec, B.bytes, hml, findClass_of_methodNamed B.named, atoms_spec (ws := w_PF_has) B.pre⟩
  have hx := hX.1
  have hb := hX.2.1
  have hown := hX.2.2.2.1
  have hts := hX.2.2.2.2
  have hr := B.returns
  have hlk := B.notSynchronized
  have hl := lv_entry ([.ref v0, .int v1]) (n := 2) (Nat.le_of_ble_eq_true rfl)
  rw [lg_entry_eq]
  generalize (lg_sl ([.ref v0, .int v1]) ++ List.replicate (2 - (lg_sl ([.ref v0, .int v1])).length) Slot.unset).toArray = ls at hl ⊢
  have hl : lv_has ls 2 [(0, .ref v0), (1, .int v1)] := hl
  unfold f_PF_has at h
  refine lv_iload_n hx hb d_PF_has_0 rfl (lv_at hl 1 rfl) ?_
  refine lv_if_lt (tgt := 16) hx hb d_PF_has_1 (by decide) (fun hc => ?_) (fun hc => ?_)
  · replace h := ifP h hc
    refine lv_iconst (v := 0) hx hb d_PF_has_16 (by decide) ?_
    subst h
    exact e_zret hX hr hlk hWd (Or.inl rfl) d_PF_has_17
  · replace h := ifN h hc
    refine lv_iload_n hx hb d_PF_has_4 rfl (lv_at hl 1 rfl) ?_
    refine lv_aload_n hx hb d_PF_has_5 rfl (lv_at hl 0 rfl) ?_
    refine g_PF_length hX t_91 hWd hv0 d_PF_has_6 ?_
    refine lv_icmp_ge (tgt := 16) hx hb d_PF_has_9 (by decide) (fun hc => ?_) (fun hc => ?_)
    · replace h := ifP h hc
      refine lv_iconst (v := 0) hx hb d_PF_has_16 (by decide) ?_
      subst h
      exact e_zret hX hr hlk hWd (Or.inl rfl) d_PF_has_17
    · replace h := ifN h hc
      refine lv_iconst (v := 1) hx hb d_PF_has_12 (by decide) ?_
      refine lv_goto (tgt := 17) hx hb d_PF_has_13 (by decide) ?_
      subst h
      exact e_zret hX hr hlk hWd (Or.inr rfl) d_PF_has_17
set_option maxHeartbeats 4000000 in
set_option maxRecDepth 100000 in
theorem m_PF_end (l : Launch) {E : En} {K G : Nat → Nat} {L : List Nat} {M : Mm} {sz : Nat} {out : Mm} (v0 : Nat) (v1 : Int64) (hv0 : K v0 = 8) (h : f_PF_end G v0 v1 M = out) : Met l y_PF_end w_PF_end rm_PF_end (va_Pc [.ref v0, .long v1] (Wp E K G L M sz)) (QV E K G L sz out) 0 0 (AL L sz) := by
  refine Met.ofW (cc := b_PF_end) (maxL := 3) (ret := none) (by decide) rfl ?_
  intro p e s m av below meth c s₁ B hml hv
  obtain ⟨rfl, hWp⟩ := hv
  have hWd := Wd.start hWp
  obtain ⟨rfl, -⟩ := hWp
  have hX : CallFix p m c b_PF_end 3 s _ w_PF_end "NibbleTrie$Proof" := ⟨B.exec, B.bytes, hml, findClass_of_methodNamed B.named, atoms_spec (ws := w_PF_end) B.pre⟩
  have hx := hX.1
  have hb := hX.2.1
  have hown := hX.2.2.2.1
  have hts := hX.2.2.2.2
  have hr := B.returns
  have hlk := B.notSynchronized
  have hl := lv_entry ([.ref v0, .long v1]) (n := 3) (Nat.le_of_ble_eq_true rfl)
  rw [lg_entry_eq]
  generalize (lg_sl ([.ref v0, .long v1]) ++ List.replicate (3 - (lg_sl ([.ref v0, .long v1])).length) Slot.unset).toArray = ls at hl ⊢
  have hl : lv_has ls 3 [(0, .ref v0), (1, .long v1)] := hl
  unfold f_PF_end at h
  refine lv_aload_n hx hb d_PF_end_0 rfl (lv_at hl 0 rfl) ?_
  refine lv_iconst (v := 1) hx hb d_PF_end_1 (by decide) ?_
  refine p_PF_state hX t_93 hWd hv0 d_PF_end_2 (fun H locs hWd => ?_)
  obtain ⟨M1, eM1, h⟩ := stE h
  rw [← eM1] at hWd
  refine lv_aload_n hx hb d_PF_end_5 rfl (lv_at hl 0 rfl) ?_
  refine lv_lload_n hx hb d_PF_end_6 rfl (lv_at hl 1 rfl) ?_
  refine p_PF_shown hX t_98 hWd hv0 d_PF_end_7 (fun H locs hWd => ?_)
  obtain ⟨M2, eM2, h⟩ := stE h
  rw [← eM2] at hWd
  subst h
  exact e_vret hX hr hlk hWd d_PF_end_10
set_option maxHeartbeats 4000000 in
set_option maxRecDepth 100000 in
theorem m_PF_hasReference (l : Launch) {E : En} {K G : Nat → Nat} {L : List Nat} {M : Mm} {sz : Nat} {out : Int32} (v0 : Nat) (v1 : Int32) (hv0 : K v0 = 8) (h : f_PF_hasReference G v0 v1 M = some out) : Met l y_PF_hasReference w_PF_hasReference rm_PF_hasReference (va_Pc [.ref v0, .int v1] (Wp E K G L M sz)) (QZ E K G L sz out M) 0 0 (AL L sz) := by
  refine Met.ofW (cc := b_PF_hasReference) (maxL := 2) (ret := (some .boolean)) (by decide) rfl ?_
  intro p e s m av below meth c s₁ B hml hv
  obtain ⟨rfl, hWp⟩ := hv
  have hWd := Wd.start hWp
  obtain ⟨rfl, -⟩ := hWp
  have hX : CallFix p m c b_PF_hasReference 2 s _ w_PF_hasReference "NibbleTrie$Proof" := ⟨B.exec, B.bytes, hml, findClass_of_methodNamed B.named, atoms_spec (ws := w_PF_hasReference) B.pre⟩
  have hx := hX.1
  have hb := hX.2.1
  have hown := hX.2.2.2.1
  have hts := hX.2.2.2.2
  have hr := B.returns
  have hlk := B.notSynchronized
  have hl := lv_entry ([.ref v0, .int v1]) (n := 2) (Nat.le_of_ble_eq_true rfl)
  rw [lg_entry_eq]
  generalize (lg_sl ([.ref v0, .int v1]) ++ List.replicate (2 - (lg_sl ([.ref v0, .int v1])).length) Slot.unset).toArray = ls at hl ⊢
  have hl : lv_has ls 2 [(0, .ref v0), (1, .int v1)] := hl
  unfold f_PF_hasReference at h
  refine lv_aload_n hx hb d_PF_hasReference_0 rfl (lv_at hl 0 rfl) ?_
  refine lv_iload_n hx hb d_PF_hasReference_1 rfl (lv_at hl 1 rfl) ?_
  refine kc_z (va_runV (As := [.int v1]) (rest := []) hX (m_PF_has l  v0 v1 hv0 rfl) (cb_PF_has hts t_383 ⟨Nat.le_of_ble_eq_true rfl, Nat.le_of_ble_eq_true rfl⟩) (pv_PF hWd hv0) rfl rfl hl.1 rfl (lv_room (Nat.le_of_ble_eq_true rfl)) d_PF_hasReference_2 ⟨Nat.zero_le _, Nat.zero_le _⟩) hWd (fun z1 H locs hWd => ?_)
  refine lv_if_eq (tgt := 54) hx hb d_PF_hasReference_5 (by decide) (fun hc => ?_) (fun hc => ?_)
  · replace h := ifP h hc
    refine lv_iconst (v := 0) hx hb d_PF_hasReference_54 (by decide) ?_
    obtain rfl := Option.some.inj h
    exact e_zret hX hr hlk hWd (Or.inl rfl) d_PF_hasReference_55
  · replace h := ifN h hc
    refine lv_aload_n hx hb d_PF_hasReference_8 rfl (lv_at hl 0 rfl) ?_
    refine g_PF_words hX t_89 hWd hv0 d_PF_hasReference_9 ?_
    have q2 := v_PF_words hWd hv0
    refine lv_iload_n hx hb d_PF_hasReference_12 rfl (lv_at hl 1 rfl) ?_
    obtain ⟨j3, hj3, h⟩ := ob h
    refine r_lald hX hWd q2 hj3 d_PF_hasReference_13 ?_
    refine lv_lconst (v := 0) hx hb d_PF_hasReference_14 (by decide) ?_
    refine W.lcmp hx hb d_PF_hasReference_15 ?_
    refine lv_if_lt (tgt := 54) hx hb d_PF_hasReference_16 (by decide) (fun hc => ?_) (fun hc => ?_)
    · replace h := ifP h hc
      refine lv_iconst (v := 0) hx hb d_PF_hasReference_54 (by decide) ?_
      obtain rfl := Option.some.inj h
      exact e_zret hX hr hlk hWd (Or.inl rfl) d_PF_hasReference_55
    · replace h := ifN h hc
      refine lv_aload_n hx hb d_PF_hasReference_19 rfl (lv_at hl 0 rfl) ?_
      refine g_PF_words hX t_89 hWd hv0 d_PF_hasReference_20 ?_
      have q4 := v_PF_words hWd hv0
      refine lv_iload_n hx hb d_PF_hasReference_23 rfl (lv_at hl 1 rfl) ?_
      obtain ⟨j5, hj5, h⟩ := ob h
      refine r_lald hX hWd q4 hj5 d_PF_hasReference_24 ?_
      refine lv_ldc2 (v := 2) hx hb hown (hts _ (List.mem_cons_of_mem _ t_384)) d_PF_hasReference_25 ?_
      refine W.lcmp hx hb d_PF_hasReference_28 ?_
      refine lv_if_gt (tgt := 54) hx hb d_PF_hasReference_29 (by decide) (fun hc => ?_) (fun hc => ?_)
      · replace h := ifP h hc
        refine lv_iconst (v := 0) hx hb d_PF_hasReference_54 (by decide) ?_
        obtain rfl := Option.some.inj h
        exact e_zret hX hr hlk hWd (Or.inl rfl) d_PF_hasReference_55
      · replace h := ifN h hc
        refine lv_iload_n hx hb d_PF_hasReference_32 rfl (lv_at hl 1 rfl) ?_
        refine lv_i2l hx hb d_PF_hasReference_33 rfl ?_
        refine lv_aload_n hx hb d_PF_hasReference_34 rfl (lv_at hl 0 rfl) ?_
        refine g_PF_words hX t_89 hWd hv0 d_PF_hasReference_35 ?_
        have q6 := v_PF_words hWd hv0
        refine lv_iload_n hx hb d_PF_hasReference_38 rfl (lv_at hl 1 rfl) ?_
        obtain ⟨j7, hj7, h⟩ := ob h
        refine r_lald hX hWd q6 hj7 d_PF_hasReference_39 ?_
        refine lv_ladd hx hb d_PF_hasReference_40 ?_
        refine lv_aload_n hx hb d_PF_hasReference_41 rfl (lv_at hl 0 rfl) ?_
        refine g_PF_length hX t_91 hWd hv0 d_PF_hasReference_42 ?_
        refine lv_i2l hx hb d_PF_hasReference_45 rfl ?_
        refine W.lcmp hx hb d_PF_hasReference_46 ?_
        refine lv_if_ge (tgt := 54) hx hb d_PF_hasReference_47 (by decide) (fun hc => ?_) (fun hc => ?_)
        · replace h := ifP h hc
          refine lv_iconst (v := 0) hx hb d_PF_hasReference_54 (by decide) ?_
          obtain rfl := Option.some.inj h
          exact e_zret hX hr hlk hWd (Or.inl rfl) d_PF_hasReference_55
        · replace h := ifN h hc
          refine lv_iconst (v := 1) hx hb d_PF_hasReference_50 (by decide) ?_
          refine lv_goto (tgt := 55) hx hb d_PF_hasReference_51 (by decide) ?_
          obtain rfl := Option.some.inj h
          exact e_zret hX hr hlk hWd (Or.inr rfl) d_PF_hasReference_55
set_option maxHeartbeats 4000000 in
set_option maxRecDepth 100000 in
theorem w_PF_followDigest_33 {p : Program} {l : Launch} {e : Env} {s : State} {m : MethodId} {args : Array Value} {below : List Frame} {meth : Method} {c : Code} {E : En} {K G : Nat → Nat} {L : List Nat} (hX : CallFix p m c b_PF_followDigest 7 s args w_PF_followDigest "NibbleTrie$Proof") (hr : meth.sig.returnType = none) (hlk : meth.locks = false) {out : Mm} : ∀ (n : Nat) (v0 : Nat) (v1 : Int64) (v3 : Int32) (v4 : Int32) (v5 : Int32) (v6 : Int32) (M : Mm) (H : Heap) (locs : List Loc) (ls : Array Slot), K v0 = 8 → lv_has ls 7 [(0, .ref v0), (1, .long v1), (3, .int v3), (4, .int v4), (5, .int v5), (6, .int v6)] → Wd E K G L M s.heap H locs s → f_PF_followDigest_33 G n v0 v1 v3 v4 v5 v6 M = some out → W p l e rm_PF_followDigest s m args below meth c H locs 0 0 (MQ below (QV E K G L s.heap.size out) args s 0 0 (AL L s.heap.size)) (F0 m 33 ls []) := by
  have hx := hX.1
  have hb := hX.2.1
  have hown := hX.2.2.2.1
  have hts := hX.2.2.2.2
  intro n
  induction n with
  | zero => intro _ _ _ _ _ _ _ _ _ _ _ _ _ h; rw [f_PF_followDigest_33] at h; cases h
  | succ n ih =>
    intro v0 v1 v3 v4 v5 v6 M H locs ls hv0 hl hWd h
    rw [f_PF_followDigest_33] at h
    refine lv_iload hx hb d_PF_followDigest_33 (lv_at hl 5 rfl) ?_
    refine lv_bipush (v := 16) hx hb d_PF_followDigest_35 (by decide) ?_
    refine lv_icmp_ge (tgt := 103) hx hb d_PF_followDigest_37 (by decide) (fun hc => ?_) (fun hc => ?_)
    · replace h := ifP h hc
      refine lv_aload_n hx hb d_PF_followDigest_103 rfl (lv_at hl 0 rfl) ?_
      refine lv_iload hx hb d_PF_followDigest_104 (lv_at hl 4 rfl) ?_
      refine kc_z (va_runV (As := [.int v5]) (rest := []) hX (m_PF_has l  v0 v5 hv0 rfl) (cb_PF_has hts t_383 ⟨Nat.le_of_ble_eq_true rfl, Nat.le_of_ble_eq_true rfl⟩) (pv_PF hWd hv0) rfl rfl hl.1 rfl (lv_room (Nat.le_of_ble_eq_true rfl)) d_PF_followDigest_106 ⟨Nat.zero_le _, Nat.zero_le _⟩) hWd (fun z1 H locs hWd => ?_)
      refine lv_if_eq (tgt := 131) hx hb d_PF_followDigest_109 (by decide) (fun hc => ?_) (fun hc => ?_)
      · replace h := ifP h hc
        refine lv_aload_n hx hb d_PF_followDigest_131 rfl (lv_at hl 0 rfl) ?_
        refine lv_iconst (v := 2) hx hb d_PF_followDigest_132 (by decide) ?_
        refine p_PF_state hX t_93 hWd hv0 d_PF_followDigest_133 (fun H locs hWd => ?_)
        obtain ⟨M2, eM2, h⟩ := stE h
        rw [← eM2] at hWd
        obtain rfl := Option.some.inj h
        exact e_vret hX hr hlk hWd d_PF_followDigest_136
      · replace h := ifN h hc
        refine lv_aload_n hx hb d_PF_followDigest_112 rfl (lv_at hl 0 rfl) ?_
        refine g_PF_words hX t_89 hWd hv0 d_PF_followDigest_113 ?_
        have q3 := v_PF_words hWd hv0
        refine lv_iload_n hx hb d_PF_followDigest_116 rfl (lv_at hl 2 rfl) ?_
        refine lv_iload hx hb d_PF_followDigest_117 (lv_at hl 4 rfl) ?_
        refine lv_iconst (v := 1) hx hb d_PF_followDigest_119 (by decide) ?_
        refine lv_iadd hx hb d_PF_followDigest_120 ?_
        refine lv_iload_n hx hb d_PF_followDigest_121 rfl (lv_at hl 2 rfl) ?_
        refine lv_isub hx hb d_PF_followDigest_122 ?_
        obtain ⟨q4, hq4, h⟩ := ob h
        refine kc_l (va_runSN (As := [.ref (gr M v0 0), .int v3, .int ((v5 + 1) - v3)]) (rest := []) hX (m_NT_digest l  (gr M v0 0) v3 ((v5 + 1) - v3) q3 hq4) (cn_NT_digest hts hWd.2.2.2.2.2.2.2.2.2 ⟨Nat.le_of_ble_eq_true rfl, Nat.le_of_ble_eq_true rfl⟩) hWd.preS rfl rfl hl.1 rfl (lv_room (Nat.le_of_ble_eq_true rfl)) d_PF_followDigest_123 ⟨Nat.zero_le _, Nat.zero_le _⟩) hWd (fun H locs hWd => ?_)
        refine lv_lload_n hx hb d_PF_followDigest_126 rfl (lv_at hl 1 rfl) ?_
        refine W.lcmp hx hb d_PF_followDigest_127 ?_
        refine lv_if_eq (tgt := 137) hx hb d_PF_followDigest_128 (by decide) (fun hc => ?_) (fun hc => ?_)
        · replace h := ifP h hc
          refine lv_aload_n hx hb d_PF_followDigest_137 rfl (lv_at hl 0 rfl) ?_
          refine lv_iload hx hb d_PF_followDigest_138 (lv_at hl 4 rfl) ?_
          refine lv_iconst (v := 1) hx hb d_PF_followDigest_140 (by decide) ?_
          refine lv_iadd hx hb d_PF_followDigest_141 ?_
          refine p_PF_next hX t_94 hWd hv0 d_PF_followDigest_142 (fun H locs hWd => ?_)
          obtain ⟨M5, eM5, h⟩ := stE h
          rw [← eM5] at hWd
          refine lv_iload hx hb d_PF_followDigest_145 (lv_at hl 3 rfl) ?_
          refine lv_iconst (v := (-1)) hx hb d_PF_followDigest_147 (by decide) ?_
          refine lv_icmp_ne (tgt := 165) hx hb d_PF_followDigest_148 (by decide) (fun hc => ?_) (fun hc => ?_)
          · replace h := ifN h hc
            refine lv_aload_n hx hb d_PF_followDigest_165 rfl (lv_at hl 0 rfl) ?_
            refine lv_aload_n hx hb d_PF_followDigest_166 rfl (lv_at hl 0 rfl) ?_
            refine g_PF_left hX t_95 hWd hv0 d_PF_followDigest_167 ?_
            refine lv_iconst (v := 1) hx hb d_PF_followDigest_170 (by decide) ?_
            refine kp_i (va_runS (As := [.int (gi M5 v0 4), .int 1]) (rest := [.ref v0]) hX (m_PA_without l  (gi M5 v0 4) 1 rfl) (cb_PA_without hts t_395 ⟨Nat.le_of_ble_eq_true rfl, Nat.le_of_ble_eq_true rfl⟩) preEq rfl rfl hl.1 rfl (lv_room (Nat.le_of_ble_eq_true rfl)) d_PF_followDigest_171 ⟨Nat.zero_le _, Nat.zero_le _⟩) ?_
            refine p_PF_left hX t_95 hWd hv0 d_PF_followDigest_174 (fun H locs hWd => ?_)
            obtain ⟨M6, eM6, h⟩ := stE h
            rw [← eM6] at hWd
            obtain rfl := Option.some.inj h
            exact e_vret hX hr hlk hWd d_PF_followDigest_177
          · replace h := ifP h hc
            refine lv_aload_n hx hb d_PF_followDigest_151 rfl (lv_at hl 0 rfl) ?_
            refine lv_aload_n hx hb d_PF_followDigest_152 rfl (lv_at hl 0 rfl) ?_
            refine g_PF_words hX t_89 hWd hv0 d_PF_followDigest_153 ?_
            have q7 := v_PF_words hWd hv0
            refine lv_iload hx hb d_PF_followDigest_156 (lv_at hl 4 rfl) ?_
            obtain ⟨j8, hj8, h⟩ := ob h
            refine r_lald hX hWd q7 hj8 d_PF_followDigest_158 ?_
            obtain ⟨q9, hq9, h⟩ := stE h
            refine kc_v (va_runV (As := [.long (gl M5 (gr M5 v0 0) j8)]) (rest := []) hX (m_PF_end l  v0 (gl M5 (gr M5 v0 0) j8) hv0 hq9.symm) (cb_PF_end hts t_386 ⟨Nat.le_of_ble_eq_true rfl, Nat.le_of_ble_eq_true rfl⟩) (pv_PF hWd hv0) rfl rfl hl.1 rfl (lv_room (Nat.le_of_ble_eq_true rfl)) d_PF_followDigest_159 ⟨Nat.zero_le _, Nat.zero_le _⟩) hWd (fun H locs hWd => ?_)
            refine lv_goto (tgt := 177) hx hb d_PF_followDigest_162 (by decide) ?_
            obtain rfl := Option.some.inj h
            exact e_vret hX hr hlk hWd d_PF_followDigest_177
        · replace h := ifN h hc
          refine lv_aload_n hx hb d_PF_followDigest_131 rfl (lv_at hl 0 rfl) ?_
          refine lv_iconst (v := 2) hx hb d_PF_followDigest_132 (by decide) ?_
          refine p_PF_state hX t_93 hWd hv0 d_PF_followDigest_133 (fun H locs hWd => ?_)
          obtain ⟨M10, eM10, h⟩ := stE h
          rw [← eM10] at hWd
          obtain rfl := Option.some.inj h
          exact e_vret hX hr hlk hWd d_PF_followDigest_136
    · replace h := ifN h hc
      refine lv_aload_n hx hb d_PF_followDigest_40 rfl (lv_at hl 0 rfl) ?_
      refine lv_iload hx hb d_PF_followDigest_41 (lv_at hl 4 rfl) ?_
      obtain ⟨q11, hq11, h⟩ := ob h
      refine kc_z (va_runV (As := [.int v5]) (rest := []) hX (m_PF_hasReference l  v0 v5 hv0 hq11) (cb_PF_hasReference hts t_379 ⟨Nat.le_of_ble_eq_true rfl, Nat.le_of_ble_eq_true rfl⟩) (pv_PF hWd hv0) rfl rfl hl.1 rfl (lv_room (Nat.le_of_ble_eq_true rfl)) d_PF_followDigest_43 ⟨Nat.zero_le _, Nat.zero_le _⟩) hWd (fun z12 H locs hWd => ?_)
      refine lv_if_ne (tgt := 55) hx hb d_PF_followDigest_46 (by decide) (fun hc => ?_) (fun hc => ?_)
      · replace h := ifN h hc
        refine lv_iload hx hb d_PF_followDigest_55 (lv_at hl 5 rfl) ?_
        refine lv_iload hx hb d_PF_followDigest_57 (lv_at hl 3 rfl) ?_
        refine lv_icmp_ne (tgt := 82) hx hb d_PF_followDigest_59 (by decide) (fun hc => ?_) (fun hc => ?_)
        · replace h := ifN h hc
          refine lv_iload hx hb d_PF_followDigest_82 (lv_at hl 4 rfl) ?_
          refine lv_iconst (v := 1) hx hb d_PF_followDigest_84 (by decide) ?_
          refine lv_aload_n hx hb d_PF_followDigest_85 rfl (lv_at hl 0 rfl) ?_
          refine g_PF_words hX t_89 hWd hv0 d_PF_followDigest_86 ?_
          have q13 := v_PF_words hWd hv0
          refine lv_iload hx hb d_PF_followDigest_89 (lv_at hl 4 rfl) ?_
          obtain ⟨j14, hj14, h⟩ := ob h
          refine r_lald hX hWd q13 hj14 d_PF_followDigest_91 ?_
          refine lv_l2i hx hb d_PF_followDigest_92 rfl ?_
          refine lv_iadd hx hb d_PF_followDigest_93 ?_
          refine lv_iadd hx hb d_PF_followDigest_94 ?_
          refine lv_topi (fun x15 ex15 => ?_)
          replace h := stA h ex15
          refine lv_istore (lv' := [(5, .int x15), (0, .ref v0), (1, .long v1), (3, .int v3), (4, .int v4), (6, .int v6)]) hx hb d_PF_followDigest_95 hl (by decide) rfl (fun ls hl => ?_)
          refine lv_iinc (k := 5) (v := (v6 + 1)) (lv' := [(6, .int (v6 + 1)), (5, .int x15), (0, .ref v0), (1, .long v1), (3, .int v3), (4, .int v4)]) hx hb d_PF_followDigest_97 hl rfl (by rfl) (by decide) rfl (fun ls hl => ?_)
          refine lv_goto (tgt := 33) hx hb d_PF_followDigest_100 (by decide) ?_
          exact ih v0 v1 v3 v4 x15 (v6 + 1) M _ _ _ hv0 (lv_sub hl [2, 3, 4, 5, 1, 0] rfl) hWd h
        · replace h := ifP h hc
          refine lv_aload_n hx hb d_PF_followDigest_62 rfl (lv_at hl 0 rfl) ?_
          refine lv_iload hx hb d_PF_followDigest_63 (lv_at hl 4 rfl) ?_
          refine lv_iconst (v := 1) hx hb d_PF_followDigest_65 (by decide) ?_
          refine lv_iadd hx hb d_PF_followDigest_66 ?_
          refine p_PF_reference hX t_96 hWd hv0 d_PF_followDigest_67 (fun H locs hWd => ?_)
          obtain ⟨M16, eM16, h⟩ := stE h
          rw [← eM16] at hWd
          refine lv_aload_n hx hb d_PF_followDigest_70 rfl (lv_at hl 0 rfl) ?_
          refine lv_aload_n hx hb d_PF_followDigest_71 rfl (lv_at hl 0 rfl) ?_
          refine g_PF_words hX t_89 hWd hv0 d_PF_followDigest_72 ?_
          have q17 := v_PF_words hWd hv0
          refine lv_iload hx hb d_PF_followDigest_75 (lv_at hl 4 rfl) ?_
          obtain ⟨j18, hj18, h⟩ := ob h
          refine r_lald hX hWd q17 hj18 d_PF_followDigest_77 ?_
          refine lv_l2i hx hb d_PF_followDigest_78 rfl ?_
          refine p_PF_referenceWords hX t_97 hWd hv0 d_PF_followDigest_79 (fun H locs hWd => ?_)
          obtain ⟨M19, eM19, h⟩ := stE h
          rw [← eM19] at hWd
          refine lv_iload hx hb d_PF_followDigest_82 (lv_at hl 4 rfl) ?_
          refine lv_iconst (v := 1) hx hb d_PF_followDigest_84 (by decide) ?_
          refine lv_aload_n hx hb d_PF_followDigest_85 rfl (lv_at hl 0 rfl) ?_
          refine g_PF_words hX t_89 hWd hv0 d_PF_followDigest_86 ?_
          have q20 := v_PF_words hWd hv0
          refine lv_iload hx hb d_PF_followDigest_89 (lv_at hl 4 rfl) ?_
          obtain ⟨j21, hj21, h⟩ := ob h
          refine r_lald hX hWd q20 hj21 d_PF_followDigest_91 ?_
          refine lv_l2i hx hb d_PF_followDigest_92 rfl ?_
          refine lv_iadd hx hb d_PF_followDigest_93 ?_
          refine lv_iadd hx hb d_PF_followDigest_94 ?_
          refine lv_topi (fun x22 ex22 => ?_)
          replace h := stA h ex22
          refine lv_istore (lv' := [(5, .int x22), (0, .ref v0), (1, .long v1), (3, .int v3), (4, .int v4), (6, .int v6)]) hx hb d_PF_followDigest_95 hl (by decide) rfl (fun ls hl => ?_)
          refine lv_iinc (k := 5) (v := (v6 + 1)) (lv' := [(6, .int (v6 + 1)), (5, .int x22), (0, .ref v0), (1, .long v1), (3, .int v3), (4, .int v4)]) hx hb d_PF_followDigest_97 hl rfl (by rfl) (by decide) rfl (fun ls hl => ?_)
          refine lv_goto (tgt := 33) hx hb d_PF_followDigest_100 (by decide) ?_
          exact ih v0 v1 v3 v4 x22 (v6 + 1) M19 _ _ _ hv0 (lv_sub hl [2, 3, 4, 5, 1, 0] rfl) hWd h
      · replace h := ifP h hc
        refine lv_aload_n hx hb d_PF_followDigest_49 rfl (lv_at hl 0 rfl) ?_
        refine lv_iconst (v := 2) hx hb d_PF_followDigest_50 (by decide) ?_
        refine p_PF_state hX t_93 hWd hv0 d_PF_followDigest_51 (fun H locs hWd => ?_)
        obtain ⟨M23, eM23, h⟩ := stE h
        rw [← eM23] at hWd
        obtain rfl := Option.some.inj h
        exact e_vret hX hr hlk hWd d_PF_followDigest_54
set_option maxHeartbeats 4000000 in
set_option maxRecDepth 100000 in
theorem m_PF_followDigest (l : Launch) {E : En} {K G : Nat → Nat} {L : List Nat} {M : Mm} {sz : Nat} {out : Mm} (v0 : Nat) (v1 : Int64) (hv0 : K v0 = 8) (h : f_PF_followDigest G v0 v1 M = some out) : Met l y_PF_followDigest w_PF_followDigest rm_PF_followDigest (va_Pc [.ref v0, .long v1] (Wp E K G L M sz)) (QV E K G L sz out) 0 0 (AL L sz) := by
  refine Met.ofW (cc := b_PF_followDigest) (maxL := 7) (ret := none) (by decide) rfl ?_
  intro p e s m av below meth c s₁ B hml hv
  obtain ⟨rfl, hWp⟩ := hv
  have hWd := Wd.start hWp
  obtain ⟨rfl, -⟩ := hWp
  have hX : CallFix p m c b_PF_followDigest 7 s _ w_PF_followDigest "NibbleTrie$Proof" := ⟨B.exec, B.bytes, hml, findClass_of_methodNamed B.named, atoms_spec (ws := w_PF_followDigest) B.pre⟩
  have hx := hX.1
  have hb := hX.2.1
  have hown := hX.2.2.2.1
  have hts := hX.2.2.2.2
  have hr := B.returns
  have hlk := B.notSynchronized
  have hl := lv_entry ([.ref v0, .long v1]) (n := 7) (Nat.le_of_ble_eq_true rfl)
  rw [lg_entry_eq]
  generalize (lg_sl ([.ref v0, .long v1]) ++ List.replicate (7 - (lg_sl ([.ref v0, .long v1])).length) Slot.unset).toArray = ls at hl ⊢
  have hl : lv_has ls 7 [(0, .ref v0), (1, .long v1)] := hl
  unfold f_PF_followDigest at h
  refine lv_aload_n hx hb d_PF_followDigest_0 rfl (lv_at hl 0 rfl) ?_
  refine g_PF_next hX t_94 hWd hv0 d_PF_followDigest_1 ?_
  refine lv_istore_n (lv' := [(3, .int (gi M v0 3)), (0, .ref v0), (1, .long v1)]) hx hb d_PF_followDigest_4 rfl hl (by decide) rfl (fun ls hl => ?_)
  refine lv_aload_n hx hb d_PF_followDigest_5 rfl (lv_at hl 1 rfl) ?_
  refine g_PF_left hX t_95 hWd hv0 d_PF_followDigest_6 ?_
  refine lv_iconst (v := 1) hx hb d_PF_followDigest_9 (by decide) ?_
  refine lv_icmp_ne (tgt := 17) hx hb d_PF_followDigest_10 (by decide) (fun hc => ?_) (fun hc => ?_)
  · replace h := ifN h hc
    refine lv_aload_n hx hb d_PF_followDigest_17 rfl (lv_at hl 1 rfl) ?_
    refine g_PF_left hX t_95 hWd hv0 d_PF_followDigest_18 ?_
    refine lv_iconst (v := 0) hx hb d_PF_followDigest_21 (by decide) ?_
    refine kp_i (va_runS (As := [.int (gi M v0 4), .int 0]) (rest := []) hX (m_PA_nibble l  (gi M v0 4) 0 rfl) (cb_PA_nibble hts t_394 ⟨Nat.le_of_ble_eq_true rfl, Nat.le_of_ble_eq_true rfl⟩) preEq rfl rfl hl.1 rfl (lv_room (Nat.le_of_ble_eq_true rfl)) d_PF_followDigest_22 ⟨Nat.zero_le _, Nat.zero_le _⟩) ?_
    refine lv_topi (fun x1 ex1 => ?_)
    replace h := stA h ex1
    refine lv_istore (lv' := [(4, .int x1), (3, .int (gi M v0 3)), (0, .ref v0), (1, .long v1)]) hx hb d_PF_followDigest_25 hl (by decide) rfl (fun ls hl => ?_)
    refine lv_iload_n hx hb d_PF_followDigest_27 rfl (lv_at hl 1 rfl) ?_
    refine lv_istore (lv' := [(5, .int (gi M v0 3)), (4, .int x1), (3, .int (gi M v0 3)), (0, .ref v0), (1, .long v1)]) hx hb d_PF_followDigest_28 hl (by decide) rfl (fun ls hl => ?_)
    refine lv_iconst (v := 0) hx hb d_PF_followDigest_30 (by decide) ?_
    refine lv_istore (lv' := [(6, .int 0), (5, .int (gi M v0 3)), (4, .int x1), (3, .int (gi M v0 3)), (0, .ref v0), (1, .long v1)]) hx hb d_PF_followDigest_31 hl (by decide) rfl (fun ls hl => ?_)
    exact w_PF_followDigest_33 hX hr hlk FU v0 v1 (gi M v0 3) x1 (gi M v0 3) 0 M _ _ _ hv0 (lv_sub hl [4, 5, 3, 2, 1, 0] rfl) hWd h
  · replace h := ifP h hc
    refine lv_iconst (v := (-1)) hx hb d_PF_followDigest_13 (by decide) ?_
    refine lv_goto (tgt := 25) hx hb d_PF_followDigest_14 (by decide) ?_
    refine lv_istore (lv' := [(4, .int (-1)), (3, .int (gi M v0 3)), (0, .ref v0), (1, .long v1)]) hx hb d_PF_followDigest_25 hl (by decide) rfl (fun ls hl => ?_)
    refine lv_iload_n hx hb d_PF_followDigest_27 rfl (lv_at hl 1 rfl) ?_
    refine lv_istore (lv' := [(5, .int (gi M v0 3)), (4, .int (-1)), (3, .int (gi M v0 3)), (0, .ref v0), (1, .long v1)]) hx hb d_PF_followDigest_28 hl (by decide) rfl (fun ls hl => ?_)
    refine lv_iconst (v := 0) hx hb d_PF_followDigest_30 (by decide) ?_
    refine lv_istore (lv' := [(6, .int 0), (5, .int (gi M v0 3)), (4, .int (-1)), (3, .int (gi M v0 3)), (0, .ref v0), (1, .long v1)]) hx hb d_PF_followDigest_31 hl (by decide) rfl (fun ls hl => ?_)
    exact w_PF_followDigest_33 hX hr hlk FU v0 v1 (gi M v0 3) (-1) (gi M v0 3) 0 M _ _ _ hv0 (lv_sub hl [4, 5, 3, 2, 1, 0] rfl) hWd h
set_option maxHeartbeats 4000000 in
set_option maxRecDepth 100000 in
theorem m_PF_followPair (l : Launch) {E : En} {K G : Nat → Nat} {L : List Nat} {M : Mm} {sz : Nat} {out : Mm} (v0 : Nat) (v1 : Int64) (v3 : Int64) (hv0 : K v0 = 8) (h : f_PF_followPair G v0 v1 v3 M = out) : Met l y_PF_followPair w_PF_followPair rm_PF_followPair (va_Pc [.ref v0, .long v1, .long v3] (Wp E K G L M sz)) (QV E K G L sz out) 0 0 (AL L sz) := by
  refine Met.ofW (cc := b_PF_followPair) (maxL := 9) (ret := none) (by decide) rfl ?_
  intro p e s m av below meth c s₁ B hml hv
  obtain ⟨rfl, hWp⟩ := hv
  have hWd := Wd.start hWp
  obtain ⟨rfl, -⟩ := hWp
  have hX : CallFix p m c b_PF_followPair 9 s _ w_PF_followPair "NibbleTrie$Proof" := ⟨B.exec, B.bytes, hml, findClass_of_methodNamed B.named, atoms_spec (ws := w_PF_followPair) B.pre⟩
  have hx := hX.1
  have hb := hX.2.1
  have hown := hX.2.2.2.1
  have hts := hX.2.2.2.2
  have hr := B.returns
  have hlk := B.notSynchronized
  have hl := lv_entry ([.ref v0, .long v1, .long v3]) (n := 9) (Nat.le_of_ble_eq_true rfl)
  rw [lg_entry_eq]
  generalize (lg_sl ([.ref v0, .long v1, .long v3]) ++ List.replicate (9 - (lg_sl ([.ref v0, .long v1, .long v3])).length) Slot.unset).toArray = ls at hl ⊢
  have hl : lv_has ls 9 [(0, .ref v0), (1, .long v1), (3, .long v3)] := hl
  unfold f_PF_followPair at h
  refine lv_lload_n hx hb d_PF_followPair_0 rfl (lv_at hl 1 rfl) ?_
  refine lv_iconst (v := 1) hx hb d_PF_followPair_1 (by decide) ?_
  refine lv_lshr hx hb d_PF_followPair_2 rfl ?_
  refine lv_topl (fun x1 ex1 => ?_)
  replace h := stA h ex1
  refine lv_lstore (lv' := [(5, .long x1), (0, .ref v0), (1, .long v1), (3, .long v3)]) hx hb d_PF_followPair_3 hl (by decide) rfl (fun ls hl => ?_)
  refine lv_lload_n hx hb d_PF_followPair_5 rfl (lv_at hl 2 rfl) ?_
  refine lv_lconst (v := 1) hx hb d_PF_followPair_6 (by decide) ?_
  refine lv_land hx hb d_PF_followPair_7 ?_
  refine lv_lconst (v := 1) hx hb d_PF_followPair_8 (by decide) ?_
  refine W.lcmp hx hb d_PF_followPair_9 ?_
  refine lv_if_ne (tgt := 17) hx hb d_PF_followPair_10 (by decide) (fun hc => ?_) (fun hc => ?_)
  · replace h := ifN h hc
    refine lv_iconst (v := 0) hx hb d_PF_followPair_17 (by decide) ?_
    refine lv_istore (lv' := [(7, .int 0), (5, .long x1), (0, .ref v0), (1, .long v1), (3, .long v3)]) hx hb d_PF_followPair_18 hl (by decide) rfl (fun ls hl => ?_)
    refine lv_lload hx hb d_PF_followPair_20 (lv_at hl 1 rfl) ?_
    refine kp_z (va_runS (As := [.long x1]) (rest := []) hX (m_PA_isNumber l  x1 rfl) (cb_PA_isNumber hts t_400 ⟨Nat.le_of_ble_eq_true rfl, Nat.le_of_ble_eq_true rfl⟩) preEq rfl rfl hl.1 rfl (lv_room (Nat.le_of_ble_eq_true rfl)) d_PF_followPair_22 ⟨Nat.zero_le _, Nat.zero_le _⟩) (fun z2 => ?_)
    refine lv_if_eq (tgt := 40) hx hb d_PF_followPair_25 (by decide) (fun hc => ?_) (fun hc => ?_)
    · replace h := ifP h hc
      refine lv_aload_n hx hb d_PF_followPair_40 rfl (lv_at hl 2 rfl) ?_
      refine lv_iconst (v := 2) hx hb d_PF_followPair_41 (by decide) ?_
      refine p_PF_state hX t_93 hWd hv0 d_PF_followPair_42 (fun H locs hWd => ?_)
      obtain ⟨M3, eM3, h⟩ := stE h
      rw [← eM3] at hWd
      subst h
      exact e_vret hX hr hlk hWd d_PF_followPair_45
    · replace h := ifN h hc
      refine lv_iload hx hb d_PF_followPair_28 (lv_at hl 0 rfl) ?_
      refine lv_if_ne (tgt := 46) hx hb d_PF_followPair_30 (by decide) (fun hc => ?_) (fun hc => ?_)
      · replace h := ifN h hc
        refine lv_lload hx hb d_PF_followPair_46 (lv_at hl 1 rfl) ?_
        refine lv_l2i hx hb d_PF_followPair_48 rfl ?_
        refine lv_istore (lv' := [(8, .int (x1.toInt32)), (7, .int 0), (5, .long x1), (0, .ref v0), (1, .long v1), (3, .long v3)]) hx hb d_PF_followPair_49 hl (by decide) rfl (fun ls hl => ?_)
        refine lv_iload hx hb d_PF_followPair_51 (lv_at hl 1 rfl) ?_
        refine lv_if_eq (tgt := 77) hx hb d_PF_followPair_53 (by decide) (fun hc => ?_) (fun hc => ?_)
        · replace h := ifP h hc
          refine lv_aload_n hx hb d_PF_followPair_77 rfl (lv_at hl 3 rfl) ?_
          refine g_PF_left hX t_95 hWd hv0 d_PF_followPair_78 ?_
          refine lv_iload hx hb d_PF_followPair_81 (lv_at hl 0 rfl) ?_
          refine kp_z (va_runS (As := [.int (gi M v0 4), .int (x1.toInt32)]) (rest := []) hX (m_PA_begins l  (gi M v0 4) (x1.toInt32) rfl) (cb_PA_begins hts t_401 ⟨Nat.le_of_ble_eq_true rfl, Nat.le_of_ble_eq_true rfl⟩) preEq rfl rfl hl.1 rfl (lv_room (Nat.le_of_ble_eq_true rfl)) d_PF_followPair_83 ⟨Nat.zero_le _, Nat.zero_le _⟩) (fun z4 => ?_)
          refine lv_if_ne (tgt := 97) hx hb d_PF_followPair_86 (by decide) (fun hc => ?_) (fun hc => ?_)
          · replace h := ifN h hc
            refine lv_aload_n hx hb d_PF_followPair_97 rfl (lv_at hl 3 rfl) ?_
            refine lv_aload_n hx hb d_PF_followPair_98 rfl (lv_at hl 3 rfl) ?_
            refine g_PF_left hX t_95 hWd hv0 d_PF_followPair_99 ?_
            refine lv_iload hx hb d_PF_followPair_102 (lv_at hl 0 rfl) ?_
            refine kp_i (va_runS (As := [.int (x1.toInt32)]) (rest := [.int (gi M v0 4), .ref v0]) hX (m_PA_length l  (x1.toInt32) rfl) (cb_PA_length hts t_402 ⟨Nat.le_of_ble_eq_true rfl, Nat.le_of_ble_eq_true rfl⟩) preEq rfl rfl hl.1 rfl (lv_room (Nat.le_of_ble_eq_true rfl)) d_PF_followPair_104 ⟨Nat.zero_le _, Nat.zero_le _⟩) ?_
            refine kp_i (va_runS (As := [.int (gi M v0 4), .int (f_PA_length (x1.toInt32))]) (rest := [.ref v0]) hX (m_PA_without l  (gi M v0 4) (f_PA_length (x1.toInt32)) rfl) (cb_PA_without hts t_395 ⟨Nat.le_of_ble_eq_true rfl, Nat.le_of_ble_eq_true rfl⟩) preEq rfl rfl hl.1 rfl (lv_room (Nat.le_of_ble_eq_true rfl)) d_PF_followPair_107 ⟨Nat.zero_le _, Nat.zero_le _⟩) ?_
            refine p_PF_left hX t_95 hWd hv0 d_PF_followPair_110 (fun H locs hWd => ?_)
            obtain ⟨M5, eM5, h⟩ := stE h
            rw [← eM5] at hWd
            refine lv_aload_n hx hb d_PF_followPair_113 rfl (lv_at hl 3 rfl) ?_
            refine lv_dup hx hb d_PF_followPair_114 rfl ?_
            refine g_PF_reference hX t_96 hWd hv0 d_PF_followPair_115 ?_
            refine lv_iconst (v := 1) hx hb d_PF_followPair_118 (by decide) ?_
            refine lv_iadd hx hb d_PF_followPair_119 ?_
            refine p_PF_reference hX t_96 hWd hv0 d_PF_followPair_120 (fun H locs hWd => ?_)
            obtain ⟨M6, eM6, h⟩ := stE h
            rw [← eM6] at hWd
            refine lv_aload_n hx hb d_PF_followPair_123 rfl (lv_at hl 3 rfl) ?_
            refine lv_iconst (v := 1) hx hb d_PF_followPair_124 (by decide) ?_
            refine p_PF_referenceWords hX t_97 hWd hv0 d_PF_followPair_125 (fun H locs hWd => ?_)
            obtain ⟨M7, eM7, h⟩ := stE h
            rw [← eM7] at hWd
            subst h
            exact e_vret hX hr hlk hWd d_PF_followPair_128
          · replace h := ifP h hc
            refine lv_aload_n hx hb d_PF_followPair_89 rfl (lv_at hl 3 rfl) ?_
            refine lv_lconst (v := 0) hx hb d_PF_followPair_90 (by decide) ?_
            obtain ⟨q8, hq8, h⟩ := stE h
            refine kc_v (va_runV (As := [.long 0]) (rest := []) hX (m_PF_end l  v0 0 hv0 hq8.symm) (cb_PF_end hts t_386 ⟨Nat.le_of_ble_eq_true rfl, Nat.le_of_ble_eq_true rfl⟩) (pv_PF hWd hv0) rfl rfl hl.1 rfl (lv_room (Nat.le_of_ble_eq_true rfl)) d_PF_followPair_91 ⟨Nat.zero_le _, Nat.zero_le _⟩) hWd (fun H locs hWd => ?_)
            refine lv_goto (tgt := 128) hx hb d_PF_followPair_94 (by decide) ?_
            subst h
            exact e_vret hX hr hlk hWd d_PF_followPair_128
        · replace h := ifN h hc
          refine lv_aload_n hx hb d_PF_followPair_56 rfl (lv_at hl 3 rfl) ?_
          refine lv_aload_n hx hb d_PF_followPair_57 rfl (lv_at hl 3 rfl) ?_
          refine g_PF_left hX t_95 hWd hv0 d_PF_followPair_58 ?_
          refine lv_iload hx hb d_PF_followPair_61 (lv_at hl 0 rfl) ?_
          refine lv_icmp_ne (tgt := 70) hx hb d_PF_followPair_63 (by decide) (fun hc => ?_) (fun hc => ?_)
          · replace h := ifN h hc
            refine lv_lconst (v := 0) hx hb d_PF_followPair_70 (by decide) ?_
            obtain ⟨q9, hq9, h⟩ := stE h
            refine kc_v (va_runV (As := [.long 0]) (rest := []) hX (m_PF_end l  v0 0 hv0 hq9.symm) (cb_PF_end hts t_386 ⟨Nat.le_of_ble_eq_true rfl, Nat.le_of_ble_eq_true rfl⟩) (pv_PF hWd hv0) rfl rfl hl.1 rfl (lv_room (Nat.le_of_ble_eq_true rfl)) d_PF_followPair_71 ⟨Nat.zero_le _, Nat.zero_le _⟩) hWd (fun H locs hWd => ?_)
            refine lv_goto (tgt := 128) hx hb d_PF_followPair_74 (by decide) ?_
            subst h
            exact e_vret hX hr hlk hWd d_PF_followPair_128
          · replace h := ifP h hc
            refine lv_lload_n hx hb d_PF_followPair_66 rfl (lv_at hl 5 rfl) ?_
            refine lv_goto (tgt := 71) hx hb d_PF_followPair_67 (by decide) ?_
            obtain ⟨q10, hq10, h⟩ := stE h
            refine kc_v (va_runV (As := [.long v3]) (rest := []) hX (m_PF_end l  v0 v3 hv0 hq10.symm) (cb_PF_end hts t_386 ⟨Nat.le_of_ble_eq_true rfl, Nat.le_of_ble_eq_true rfl⟩) (pv_PF hWd hv0) rfl rfl hl.1 rfl (lv_room (Nat.le_of_ble_eq_true rfl)) d_PF_followPair_71 ⟨Nat.zero_le _, Nat.zero_le _⟩) hWd (fun H locs hWd => ?_)
            refine lv_goto (tgt := 128) hx hb d_PF_followPair_74 (by decide) ?_
            subst h
            exact e_vret hX hr hlk hWd d_PF_followPair_128
      · replace h := ifP h hc
        refine lv_lload hx hb d_PF_followPair_33 (lv_at hl 1 rfl) ?_
        refine lv_lconst (v := 1) hx hb d_PF_followPair_35 (by decide) ?_
        refine W.lcmp hx hb d_PF_followPair_36 ?_
        refine lv_if_ne (tgt := 46) hx hb d_PF_followPair_37 (by decide) (fun hc => ?_) (fun hc => ?_)
        · replace h := ifN h hc
          refine lv_lload hx hb d_PF_followPair_46 (lv_at hl 1 rfl) ?_
          refine lv_l2i hx hb d_PF_followPair_48 rfl ?_
          refine lv_istore (lv' := [(8, .int (x1.toInt32)), (7, .int 0), (5, .long x1), (0, .ref v0), (1, .long v1), (3, .long v3)]) hx hb d_PF_followPair_49 hl (by decide) rfl (fun ls hl => ?_)
          refine lv_iload hx hb d_PF_followPair_51 (lv_at hl 1 rfl) ?_
          refine lv_if_eq (tgt := 77) hx hb d_PF_followPair_53 (by decide) (fun hc => ?_) (fun hc => ?_)
          · replace h := ifP h hc
            refine lv_aload_n hx hb d_PF_followPair_77 rfl (lv_at hl 3 rfl) ?_
            refine g_PF_left hX t_95 hWd hv0 d_PF_followPair_78 ?_
            refine lv_iload hx hb d_PF_followPair_81 (lv_at hl 0 rfl) ?_
            refine kp_z (va_runS (As := [.int (gi M v0 4), .int (x1.toInt32)]) (rest := []) hX (m_PA_begins l  (gi M v0 4) (x1.toInt32) rfl) (cb_PA_begins hts t_401 ⟨Nat.le_of_ble_eq_true rfl, Nat.le_of_ble_eq_true rfl⟩) preEq rfl rfl hl.1 rfl (lv_room (Nat.le_of_ble_eq_true rfl)) d_PF_followPair_83 ⟨Nat.zero_le _, Nat.zero_le _⟩) (fun z11 => ?_)
            refine lv_if_ne (tgt := 97) hx hb d_PF_followPair_86 (by decide) (fun hc => ?_) (fun hc => ?_)
            · replace h := ifN h hc
              refine lv_aload_n hx hb d_PF_followPair_97 rfl (lv_at hl 3 rfl) ?_
              refine lv_aload_n hx hb d_PF_followPair_98 rfl (lv_at hl 3 rfl) ?_
              refine g_PF_left hX t_95 hWd hv0 d_PF_followPair_99 ?_
              refine lv_iload hx hb d_PF_followPair_102 (lv_at hl 0 rfl) ?_
              refine kp_i (va_runS (As := [.int (x1.toInt32)]) (rest := [.int (gi M v0 4), .ref v0]) hX (m_PA_length l  (x1.toInt32) rfl) (cb_PA_length hts t_402 ⟨Nat.le_of_ble_eq_true rfl, Nat.le_of_ble_eq_true rfl⟩) preEq rfl rfl hl.1 rfl (lv_room (Nat.le_of_ble_eq_true rfl)) d_PF_followPair_104 ⟨Nat.zero_le _, Nat.zero_le _⟩) ?_
              refine kp_i (va_runS (As := [.int (gi M v0 4), .int (f_PA_length (x1.toInt32))]) (rest := [.ref v0]) hX (m_PA_without l  (gi M v0 4) (f_PA_length (x1.toInt32)) rfl) (cb_PA_without hts t_395 ⟨Nat.le_of_ble_eq_true rfl, Nat.le_of_ble_eq_true rfl⟩) preEq rfl rfl hl.1 rfl (lv_room (Nat.le_of_ble_eq_true rfl)) d_PF_followPair_107 ⟨Nat.zero_le _, Nat.zero_le _⟩) ?_
              refine p_PF_left hX t_95 hWd hv0 d_PF_followPair_110 (fun H locs hWd => ?_)
              obtain ⟨M12, eM12, h⟩ := stE h
              rw [← eM12] at hWd
              refine lv_aload_n hx hb d_PF_followPair_113 rfl (lv_at hl 3 rfl) ?_
              refine lv_dup hx hb d_PF_followPair_114 rfl ?_
              refine g_PF_reference hX t_96 hWd hv0 d_PF_followPair_115 ?_
              refine lv_iconst (v := 1) hx hb d_PF_followPair_118 (by decide) ?_
              refine lv_iadd hx hb d_PF_followPair_119 ?_
              refine p_PF_reference hX t_96 hWd hv0 d_PF_followPair_120 (fun H locs hWd => ?_)
              obtain ⟨M13, eM13, h⟩ := stE h
              rw [← eM13] at hWd
              refine lv_aload_n hx hb d_PF_followPair_123 rfl (lv_at hl 3 rfl) ?_
              refine lv_iconst (v := 1) hx hb d_PF_followPair_124 (by decide) ?_
              refine p_PF_referenceWords hX t_97 hWd hv0 d_PF_followPair_125 (fun H locs hWd => ?_)
              obtain ⟨M14, eM14, h⟩ := stE h
              rw [← eM14] at hWd
              subst h
              exact e_vret hX hr hlk hWd d_PF_followPair_128
            · replace h := ifP h hc
              refine lv_aload_n hx hb d_PF_followPair_89 rfl (lv_at hl 3 rfl) ?_
              refine lv_lconst (v := 0) hx hb d_PF_followPair_90 (by decide) ?_
              obtain ⟨q15, hq15, h⟩ := stE h
              refine kc_v (va_runV (As := [.long 0]) (rest := []) hX (m_PF_end l  v0 0 hv0 hq15.symm) (cb_PF_end hts t_386 ⟨Nat.le_of_ble_eq_true rfl, Nat.le_of_ble_eq_true rfl⟩) (pv_PF hWd hv0) rfl rfl hl.1 rfl (lv_room (Nat.le_of_ble_eq_true rfl)) d_PF_followPair_91 ⟨Nat.zero_le _, Nat.zero_le _⟩) hWd (fun H locs hWd => ?_)
              refine lv_goto (tgt := 128) hx hb d_PF_followPair_94 (by decide) ?_
              subst h
              exact e_vret hX hr hlk hWd d_PF_followPair_128
          · replace h := ifN h hc
            refine lv_aload_n hx hb d_PF_followPair_56 rfl (lv_at hl 3 rfl) ?_
            refine lv_aload_n hx hb d_PF_followPair_57 rfl (lv_at hl 3 rfl) ?_
            refine g_PF_left hX t_95 hWd hv0 d_PF_followPair_58 ?_
            refine lv_iload hx hb d_PF_followPair_61 (lv_at hl 0 rfl) ?_
            refine lv_icmp_ne (tgt := 70) hx hb d_PF_followPair_63 (by decide) (fun hc => ?_) (fun hc => ?_)
            · replace h := ifN h hc
              refine lv_lconst (v := 0) hx hb d_PF_followPair_70 (by decide) ?_
              obtain ⟨q16, hq16, h⟩ := stE h
              refine kc_v (va_runV (As := [.long 0]) (rest := []) hX (m_PF_end l  v0 0 hv0 hq16.symm) (cb_PF_end hts t_386 ⟨Nat.le_of_ble_eq_true rfl, Nat.le_of_ble_eq_true rfl⟩) (pv_PF hWd hv0) rfl rfl hl.1 rfl (lv_room (Nat.le_of_ble_eq_true rfl)) d_PF_followPair_71 ⟨Nat.zero_le _, Nat.zero_le _⟩) hWd (fun H locs hWd => ?_)
              refine lv_goto (tgt := 128) hx hb d_PF_followPair_74 (by decide) ?_
              subst h
              exact e_vret hX hr hlk hWd d_PF_followPair_128
            · replace h := ifP h hc
              refine lv_lload_n hx hb d_PF_followPair_66 rfl (lv_at hl 5 rfl) ?_
              refine lv_goto (tgt := 71) hx hb d_PF_followPair_67 (by decide) ?_
              obtain ⟨q17, hq17, h⟩ := stE h
              refine kc_v (va_runV (As := [.long v3]) (rest := []) hX (m_PF_end l  v0 v3 hv0 hq17.symm) (cb_PF_end hts t_386 ⟨Nat.le_of_ble_eq_true rfl, Nat.le_of_ble_eq_true rfl⟩) (pv_PF hWd hv0) rfl rfl hl.1 rfl (lv_room (Nat.le_of_ble_eq_true rfl)) d_PF_followPair_71 ⟨Nat.zero_le _, Nat.zero_le _⟩) hWd (fun H locs hWd => ?_)
              refine lv_goto (tgt := 128) hx hb d_PF_followPair_74 (by decide) ?_
              subst h
              exact e_vret hX hr hlk hWd d_PF_followPair_128
        · replace h := ifP h hc
          refine lv_aload_n hx hb d_PF_followPair_40 rfl (lv_at hl 2 rfl) ?_
          refine lv_iconst (v := 2) hx hb d_PF_followPair_41 (by decide) ?_
          refine p_PF_state hX t_93 hWd hv0 d_PF_followPair_42 (fun H locs hWd => ?_)
          obtain ⟨M18, eM18, h⟩ := stE h
          rw [← eM18] at hWd
          subst h
          exact e_vret hX hr hlk hWd d_PF_followPair_45
  · replace h := ifP h hc
    refine lv_iconst (v := 1) hx hb d_PF_followPair_13 (by decide) ?_
    refine lv_goto (tgt := 18) hx hb d_PF_followPair_14 (by decide) ?_
    refine lv_istore (lv' := [(7, .int 1), (5, .long x1), (0, .ref v0), (1, .long v1), (3, .long v3)]) hx hb d_PF_followPair_18 hl (by decide) rfl (fun ls hl => ?_)
    refine lv_lload hx hb d_PF_followPair_20 (lv_at hl 1 rfl) ?_
    refine kp_z (va_runS (As := [.long x1]) (rest := []) hX (m_PA_isNumber l  x1 rfl) (cb_PA_isNumber hts t_400 ⟨Nat.le_of_ble_eq_true rfl, Nat.le_of_ble_eq_true rfl⟩) preEq rfl rfl hl.1 rfl (lv_room (Nat.le_of_ble_eq_true rfl)) d_PF_followPair_22 ⟨Nat.zero_le _, Nat.zero_le _⟩) (fun z19 => ?_)
    refine lv_if_eq (tgt := 40) hx hb d_PF_followPair_25 (by decide) (fun hc => ?_) (fun hc => ?_)
    · replace h := ifP h hc
      refine lv_aload_n hx hb d_PF_followPair_40 rfl (lv_at hl 2 rfl) ?_
      refine lv_iconst (v := 2) hx hb d_PF_followPair_41 (by decide) ?_
      refine p_PF_state hX t_93 hWd hv0 d_PF_followPair_42 (fun H locs hWd => ?_)
      obtain ⟨M20, eM20, h⟩ := stE h
      rw [← eM20] at hWd
      subst h
      exact e_vret hX hr hlk hWd d_PF_followPair_45
    · replace h := ifN h hc
      refine lv_iload hx hb d_PF_followPair_28 (lv_at hl 0 rfl) ?_
      refine lv_if_ne (tgt := 46) hx hb d_PF_followPair_30 (by decide) (fun hc => ?_) (fun hc => ?_)
      · replace h := ifN h hc
        refine lv_lload hx hb d_PF_followPair_46 (lv_at hl 1 rfl) ?_
        refine lv_l2i hx hb d_PF_followPair_48 rfl ?_
        refine lv_istore (lv' := [(8, .int (x1.toInt32)), (7, .int 1), (5, .long x1), (0, .ref v0), (1, .long v1), (3, .long v3)]) hx hb d_PF_followPair_49 hl (by decide) rfl (fun ls hl => ?_)
        refine lv_iload hx hb d_PF_followPair_51 (lv_at hl 1 rfl) ?_
        refine lv_if_eq (tgt := 77) hx hb d_PF_followPair_53 (by decide) (fun hc => ?_) (fun hc => ?_)
        · replace h := ifP h hc
          refine lv_aload_n hx hb d_PF_followPair_77 rfl (lv_at hl 3 rfl) ?_
          refine g_PF_left hX t_95 hWd hv0 d_PF_followPair_78 ?_
          refine lv_iload hx hb d_PF_followPair_81 (lv_at hl 0 rfl) ?_
          refine kp_z (va_runS (As := [.int (gi M v0 4), .int (x1.toInt32)]) (rest := []) hX (m_PA_begins l  (gi M v0 4) (x1.toInt32) rfl) (cb_PA_begins hts t_401 ⟨Nat.le_of_ble_eq_true rfl, Nat.le_of_ble_eq_true rfl⟩) preEq rfl rfl hl.1 rfl (lv_room (Nat.le_of_ble_eq_true rfl)) d_PF_followPair_83 ⟨Nat.zero_le _, Nat.zero_le _⟩) (fun z21 => ?_)
          refine lv_if_ne (tgt := 97) hx hb d_PF_followPair_86 (by decide) (fun hc => ?_) (fun hc => ?_)
          · replace h := ifN h hc
            refine lv_aload_n hx hb d_PF_followPair_97 rfl (lv_at hl 3 rfl) ?_
            refine lv_aload_n hx hb d_PF_followPair_98 rfl (lv_at hl 3 rfl) ?_
            refine g_PF_left hX t_95 hWd hv0 d_PF_followPair_99 ?_
            refine lv_iload hx hb d_PF_followPair_102 (lv_at hl 0 rfl) ?_
            refine kp_i (va_runS (As := [.int (x1.toInt32)]) (rest := [.int (gi M v0 4), .ref v0]) hX (m_PA_length l  (x1.toInt32) rfl) (cb_PA_length hts t_402 ⟨Nat.le_of_ble_eq_true rfl, Nat.le_of_ble_eq_true rfl⟩) preEq rfl rfl hl.1 rfl (lv_room (Nat.le_of_ble_eq_true rfl)) d_PF_followPair_104 ⟨Nat.zero_le _, Nat.zero_le _⟩) ?_
            refine kp_i (va_runS (As := [.int (gi M v0 4), .int (f_PA_length (x1.toInt32))]) (rest := [.ref v0]) hX (m_PA_without l  (gi M v0 4) (f_PA_length (x1.toInt32)) rfl) (cb_PA_without hts t_395 ⟨Nat.le_of_ble_eq_true rfl, Nat.le_of_ble_eq_true rfl⟩) preEq rfl rfl hl.1 rfl (lv_room (Nat.le_of_ble_eq_true rfl)) d_PF_followPair_107 ⟨Nat.zero_le _, Nat.zero_le _⟩) ?_
            refine p_PF_left hX t_95 hWd hv0 d_PF_followPair_110 (fun H locs hWd => ?_)
            obtain ⟨M22, eM22, h⟩ := stE h
            rw [← eM22] at hWd
            refine lv_aload_n hx hb d_PF_followPair_113 rfl (lv_at hl 3 rfl) ?_
            refine lv_dup hx hb d_PF_followPair_114 rfl ?_
            refine g_PF_reference hX t_96 hWd hv0 d_PF_followPair_115 ?_
            refine lv_iconst (v := 1) hx hb d_PF_followPair_118 (by decide) ?_
            refine lv_iadd hx hb d_PF_followPair_119 ?_
            refine p_PF_reference hX t_96 hWd hv0 d_PF_followPair_120 (fun H locs hWd => ?_)
            obtain ⟨M23, eM23, h⟩ := stE h
            rw [← eM23] at hWd
            refine lv_aload_n hx hb d_PF_followPair_123 rfl (lv_at hl 3 rfl) ?_
            refine lv_iconst (v := 1) hx hb d_PF_followPair_124 (by decide) ?_
            refine p_PF_referenceWords hX t_97 hWd hv0 d_PF_followPair_125 (fun H locs hWd => ?_)
            obtain ⟨M24, eM24, h⟩ := stE h
            rw [← eM24] at hWd
            subst h
            exact e_vret hX hr hlk hWd d_PF_followPair_128
          · replace h := ifP h hc
            refine lv_aload_n hx hb d_PF_followPair_89 rfl (lv_at hl 3 rfl) ?_
            refine lv_lconst (v := 0) hx hb d_PF_followPair_90 (by decide) ?_
            obtain ⟨q25, hq25, h⟩ := stE h
            refine kc_v (va_runV (As := [.long 0]) (rest := []) hX (m_PF_end l  v0 0 hv0 hq25.symm) (cb_PF_end hts t_386 ⟨Nat.le_of_ble_eq_true rfl, Nat.le_of_ble_eq_true rfl⟩) (pv_PF hWd hv0) rfl rfl hl.1 rfl (lv_room (Nat.le_of_ble_eq_true rfl)) d_PF_followPair_91 ⟨Nat.zero_le _, Nat.zero_le _⟩) hWd (fun H locs hWd => ?_)
            refine lv_goto (tgt := 128) hx hb d_PF_followPair_94 (by decide) ?_
            subst h
            exact e_vret hX hr hlk hWd d_PF_followPair_128
        · replace h := ifN h hc
          refine lv_aload_n hx hb d_PF_followPair_56 rfl (lv_at hl 3 rfl) ?_
          refine lv_aload_n hx hb d_PF_followPair_57 rfl (lv_at hl 3 rfl) ?_
          refine g_PF_left hX t_95 hWd hv0 d_PF_followPair_58 ?_
          refine lv_iload hx hb d_PF_followPair_61 (lv_at hl 0 rfl) ?_
          refine lv_icmp_ne (tgt := 70) hx hb d_PF_followPair_63 (by decide) (fun hc => ?_) (fun hc => ?_)
          · replace h := ifN h hc
            refine lv_lconst (v := 0) hx hb d_PF_followPair_70 (by decide) ?_
            obtain ⟨q26, hq26, h⟩ := stE h
            refine kc_v (va_runV (As := [.long 0]) (rest := []) hX (m_PF_end l  v0 0 hv0 hq26.symm) (cb_PF_end hts t_386 ⟨Nat.le_of_ble_eq_true rfl, Nat.le_of_ble_eq_true rfl⟩) (pv_PF hWd hv0) rfl rfl hl.1 rfl (lv_room (Nat.le_of_ble_eq_true rfl)) d_PF_followPair_71 ⟨Nat.zero_le _, Nat.zero_le _⟩) hWd (fun H locs hWd => ?_)
            refine lv_goto (tgt := 128) hx hb d_PF_followPair_74 (by decide) ?_
            subst h
            exact e_vret hX hr hlk hWd d_PF_followPair_128
          · replace h := ifP h hc
            refine lv_lload_n hx hb d_PF_followPair_66 rfl (lv_at hl 5 rfl) ?_
            refine lv_goto (tgt := 71) hx hb d_PF_followPair_67 (by decide) ?_
            obtain ⟨q27, hq27, h⟩ := stE h
            refine kc_v (va_runV (As := [.long v3]) (rest := []) hX (m_PF_end l  v0 v3 hv0 hq27.symm) (cb_PF_end hts t_386 ⟨Nat.le_of_ble_eq_true rfl, Nat.le_of_ble_eq_true rfl⟩) (pv_PF hWd hv0) rfl rfl hl.1 rfl (lv_room (Nat.le_of_ble_eq_true rfl)) d_PF_followPair_71 ⟨Nat.zero_le _, Nat.zero_le _⟩) hWd (fun H locs hWd => ?_)
            refine lv_goto (tgt := 128) hx hb d_PF_followPair_74 (by decide) ?_
            subst h
            exact e_vret hX hr hlk hWd d_PF_followPair_128
      · replace h := ifP h hc
        refine lv_lload hx hb d_PF_followPair_33 (lv_at hl 1 rfl) ?_
        refine lv_lconst (v := 1) hx hb d_PF_followPair_35 (by decide) ?_
        refine W.lcmp hx hb d_PF_followPair_36 ?_
        refine lv_if_ne (tgt := 46) hx hb d_PF_followPair_37 (by decide) (fun hc => ?_) (fun hc => ?_)
        · replace h := ifN h hc
          refine lv_lload hx hb d_PF_followPair_46 (lv_at hl 1 rfl) ?_
          refine lv_l2i hx hb d_PF_followPair_48 rfl ?_
          refine lv_istore (lv' := [(8, .int (x1.toInt32)), (7, .int 1), (5, .long x1), (0, .ref v0), (1, .long v1), (3, .long v3)]) hx hb d_PF_followPair_49 hl (by decide) rfl (fun ls hl => ?_)
          refine lv_iload hx hb d_PF_followPair_51 (lv_at hl 1 rfl) ?_
          refine lv_if_eq (tgt := 77) hx hb d_PF_followPair_53 (by decide) (fun hc => ?_) (fun hc => ?_)
          · replace h := ifP h hc
            refine lv_aload_n hx hb d_PF_followPair_77 rfl (lv_at hl 3 rfl) ?_
            refine g_PF_left hX t_95 hWd hv0 d_PF_followPair_78 ?_
            refine lv_iload hx hb d_PF_followPair_81 (lv_at hl 0 rfl) ?_
            refine kp_z (va_runS (As := [.int (gi M v0 4), .int (x1.toInt32)]) (rest := []) hX (m_PA_begins l  (gi M v0 4) (x1.toInt32) rfl) (cb_PA_begins hts t_401 ⟨Nat.le_of_ble_eq_true rfl, Nat.le_of_ble_eq_true rfl⟩) preEq rfl rfl hl.1 rfl (lv_room (Nat.le_of_ble_eq_true rfl)) d_PF_followPair_83 ⟨Nat.zero_le _, Nat.zero_le _⟩) (fun z28 => ?_)
            refine lv_if_ne (tgt := 97) hx hb d_PF_followPair_86 (by decide) (fun hc => ?_) (fun hc => ?_)
            · replace h := ifN h hc
              refine lv_aload_n hx hb d_PF_followPair_97 rfl (lv_at hl 3 rfl) ?_
              refine lv_aload_n hx hb d_PF_followPair_98 rfl (lv_at hl 3 rfl) ?_
              refine g_PF_left hX t_95 hWd hv0 d_PF_followPair_99 ?_
              refine lv_iload hx hb d_PF_followPair_102 (lv_at hl 0 rfl) ?_
              refine kp_i (va_runS (As := [.int (x1.toInt32)]) (rest := [.int (gi M v0 4), .ref v0]) hX (m_PA_length l  (x1.toInt32) rfl) (cb_PA_length hts t_402 ⟨Nat.le_of_ble_eq_true rfl, Nat.le_of_ble_eq_true rfl⟩) preEq rfl rfl hl.1 rfl (lv_room (Nat.le_of_ble_eq_true rfl)) d_PF_followPair_104 ⟨Nat.zero_le _, Nat.zero_le _⟩) ?_
              refine kp_i (va_runS (As := [.int (gi M v0 4), .int (f_PA_length (x1.toInt32))]) (rest := [.ref v0]) hX (m_PA_without l  (gi M v0 4) (f_PA_length (x1.toInt32)) rfl) (cb_PA_without hts t_395 ⟨Nat.le_of_ble_eq_true rfl, Nat.le_of_ble_eq_true rfl⟩) preEq rfl rfl hl.1 rfl (lv_room (Nat.le_of_ble_eq_true rfl)) d_PF_followPair_107 ⟨Nat.zero_le _, Nat.zero_le _⟩) ?_
              refine p_PF_left hX t_95 hWd hv0 d_PF_followPair_110 (fun H locs hWd => ?_)
              obtain ⟨M29, eM29, h⟩ := stE h
              rw [← eM29] at hWd
              refine lv_aload_n hx hb d_PF_followPair_113 rfl (lv_at hl 3 rfl) ?_
              refine lv_dup hx hb d_PF_followPair_114 rfl ?_
              refine g_PF_reference hX t_96 hWd hv0 d_PF_followPair_115 ?_
              refine lv_iconst (v := 1) hx hb d_PF_followPair_118 (by decide) ?_
              refine lv_iadd hx hb d_PF_followPair_119 ?_
              refine p_PF_reference hX t_96 hWd hv0 d_PF_followPair_120 (fun H locs hWd => ?_)
              obtain ⟨M30, eM30, h⟩ := stE h
              rw [← eM30] at hWd
              refine lv_aload_n hx hb d_PF_followPair_123 rfl (lv_at hl 3 rfl) ?_
              refine lv_iconst (v := 1) hx hb d_PF_followPair_124 (by decide) ?_
              refine p_PF_referenceWords hX t_97 hWd hv0 d_PF_followPair_125 (fun H locs hWd => ?_)
              obtain ⟨M31, eM31, h⟩ := stE h
              rw [← eM31] at hWd
              subst h
              exact e_vret hX hr hlk hWd d_PF_followPair_128
            · replace h := ifP h hc
              refine lv_aload_n hx hb d_PF_followPair_89 rfl (lv_at hl 3 rfl) ?_
              refine lv_lconst (v := 0) hx hb d_PF_followPair_90 (by decide) ?_
              obtain ⟨q32, hq32, h⟩ := stE h
              refine kc_v (va_runV (As := [.long 0]) (rest := []) hX (m_PF_end l  v0 0 hv0 hq32.symm) (cb_PF_end hts t_386 ⟨Nat.le_of_ble_eq_true rfl, Nat.le_of_ble_eq_true rfl⟩) (pv_PF hWd hv0) rfl rfl hl.1 rfl (lv_room (Nat.le_of_ble_eq_true rfl)) d_PF_followPair_91 ⟨Nat.zero_le _, Nat.zero_le _⟩) hWd (fun H locs hWd => ?_)
              refine lv_goto (tgt := 128) hx hb d_PF_followPair_94 (by decide) ?_
              subst h
              exact e_vret hX hr hlk hWd d_PF_followPair_128
          · replace h := ifN h hc
            refine lv_aload_n hx hb d_PF_followPair_56 rfl (lv_at hl 3 rfl) ?_
            refine lv_aload_n hx hb d_PF_followPair_57 rfl (lv_at hl 3 rfl) ?_
            refine g_PF_left hX t_95 hWd hv0 d_PF_followPair_58 ?_
            refine lv_iload hx hb d_PF_followPair_61 (lv_at hl 0 rfl) ?_
            refine lv_icmp_ne (tgt := 70) hx hb d_PF_followPair_63 (by decide) (fun hc => ?_) (fun hc => ?_)
            · replace h := ifN h hc
              refine lv_lconst (v := 0) hx hb d_PF_followPair_70 (by decide) ?_
              obtain ⟨q33, hq33, h⟩ := stE h
              refine kc_v (va_runV (As := [.long 0]) (rest := []) hX (m_PF_end l  v0 0 hv0 hq33.symm) (cb_PF_end hts t_386 ⟨Nat.le_of_ble_eq_true rfl, Nat.le_of_ble_eq_true rfl⟩) (pv_PF hWd hv0) rfl rfl hl.1 rfl (lv_room (Nat.le_of_ble_eq_true rfl)) d_PF_followPair_71 ⟨Nat.zero_le _, Nat.zero_le _⟩) hWd (fun H locs hWd => ?_)
              refine lv_goto (tgt := 128) hx hb d_PF_followPair_74 (by decide) ?_
              subst h
              exact e_vret hX hr hlk hWd d_PF_followPair_128
            · replace h := ifP h hc
              refine lv_lload_n hx hb d_PF_followPair_66 rfl (lv_at hl 5 rfl) ?_
              refine lv_goto (tgt := 71) hx hb d_PF_followPair_67 (by decide) ?_
              obtain ⟨q34, hq34, h⟩ := stE h
              refine kc_v (va_runV (As := [.long v3]) (rest := []) hX (m_PF_end l  v0 v3 hv0 hq34.symm) (cb_PF_end hts t_386 ⟨Nat.le_of_ble_eq_true rfl, Nat.le_of_ble_eq_true rfl⟩) (pv_PF hWd hv0) rfl rfl hl.1 rfl (lv_room (Nat.le_of_ble_eq_true rfl)) d_PF_followPair_71 ⟨Nat.zero_le _, Nat.zero_le _⟩) hWd (fun H locs hWd => ?_)
              refine lv_goto (tgt := 128) hx hb d_PF_followPair_74 (by decide) ?_
              subst h
              exact e_vret hX hr hlk hWd d_PF_followPair_128
        · replace h := ifP h hc
          refine lv_aload_n hx hb d_PF_followPair_40 rfl (lv_at hl 2 rfl) ?_
          refine lv_iconst (v := 2) hx hb d_PF_followPair_41 (by decide) ?_
          refine p_PF_state hX t_93 hWd hv0 d_PF_followPair_42 (fun H locs hWd => ?_)
          obtain ⟨M35, eM35, h⟩ := stE h
          rw [← eM35] at hWd
          subst h
          exact e_vret hX hr hlk hWd d_PF_followPair_45
set_option maxHeartbeats 4000000 in
set_option maxRecDepth 100000 in
theorem m_PF_takeTopReference (l : Launch) {E : En} {K G : Nat → Nat} {L : List Nat} {M : Mm} {sz : Nat} {out : Mm} (v0 : Nat) (v1 : Int64) (hv0 : K v0 = 8) (h : f_PF_takeTopReference G v0 v1 M = some out) : Met l y_PF_takeTopReference w_PF_takeTopReference rm_PF_takeTopReference (va_Pc [.ref v0, .long v1] (Wp E K G L M sz)) (QV E K G L sz out) 0 0 (AL L sz) := by
  refine Met.ofW (cc := b_PF_takeTopReference) (maxL := 3) (ret := none) (by decide) rfl ?_
  intro p e s m av below meth c s₁ B hml hv
  obtain ⟨rfl, hWp⟩ := hv
  have hWd := Wd.start hWp
  obtain ⟨rfl, -⟩ := hWp
  have hX : CallFix p m c b_PF_takeTopReference 3 s _ w_PF_takeTopReference "NibbleTrie$Proof" := ⟨B.exec, B.bytes, hml, findClass_of_methodNamed B.named, atoms_spec (ws := w_PF_takeTopReference) B.pre⟩
  have hx := hX.1
  have hb := hX.2.1
  have hown := hX.2.2.2.1
  have hts := hX.2.2.2.2
  have hr := B.returns
  have hlk := B.notSynchronized
  have hl := lv_entry ([.ref v0, .long v1]) (n := 3) (Nat.le_of_ble_eq_true rfl)
  rw [lg_entry_eq]
  generalize (lg_sl ([.ref v0, .long v1]) ++ List.replicate (3 - (lg_sl ([.ref v0, .long v1])).length) Slot.unset).toArray = ls at hl ⊢
  have hl : lv_has ls 3 [(0, .ref v0), (1, .long v1)] := hl
  unfold f_PF_takeTopReference at h
  refine lv_aload_n hx hb d_PF_takeTopReference_0 rfl (lv_at hl 0 rfl) ?_
  refine lv_iconst (v := 0) hx hb d_PF_takeTopReference_1 (by decide) ?_
  obtain ⟨q1, hq1, h⟩ := ob h
  refine kc_z (va_runV (As := [.int 0]) (rest := []) hX (m_PF_hasReference l  v0 0 hv0 hq1) (cb_PF_hasReference hts t_379 ⟨Nat.le_of_ble_eq_true rfl, Nat.le_of_ble_eq_true rfl⟩) (pv_PF hWd hv0) rfl rfl hl.1 rfl (lv_room (Nat.le_of_ble_eq_true rfl)) d_PF_takeTopReference_2 ⟨Nat.zero_le _, Nat.zero_le _⟩) hWd (fun z2 H locs hWd => ?_)
  refine lv_if_ne (tgt := 14) hx hb d_PF_takeTopReference_5 (by decide) (fun hc => ?_) (fun hc => ?_)
  · replace h := ifN h hc
    refine lv_aload_n hx hb d_PF_takeTopReference_14 rfl (lv_at hl 0 rfl) ?_
    refine lv_iconst (v := 1) hx hb d_PF_takeTopReference_15 (by decide) ?_
    refine p_PF_reference hX t_96 hWd hv0 d_PF_takeTopReference_16 (fun H locs hWd => ?_)
    obtain ⟨M3, eM3, h⟩ := stE h
    rw [← eM3] at hWd
    refine lv_aload_n hx hb d_PF_takeTopReference_19 rfl (lv_at hl 0 rfl) ?_
    refine lv_aload_n hx hb d_PF_takeTopReference_20 rfl (lv_at hl 0 rfl) ?_
    refine g_PF_words hX t_89 hWd hv0 d_PF_takeTopReference_21 ?_
    have q4 := v_PF_words hWd hv0
    refine lv_iconst (v := 0) hx hb d_PF_takeTopReference_24 (by decide) ?_
    obtain ⟨j5, hj5, h⟩ := ob h
    refine r_lald hX hWd q4 hj5 d_PF_takeTopReference_25 ?_
    refine lv_l2i hx hb d_PF_takeTopReference_26 rfl ?_
    refine p_PF_referenceWords hX t_97 hWd hv0 d_PF_takeTopReference_27 (fun H locs hWd => ?_)
    obtain ⟨M6, eM6, h⟩ := stE h
    rw [← eM6] at hWd
    refine lv_aload_n hx hb d_PF_takeTopReference_30 rfl (lv_at hl 0 rfl) ?_
    refine lv_iconst (v := 1) hx hb d_PF_takeTopReference_31 (by decide) ?_
    refine lv_aload_n hx hb d_PF_takeTopReference_32 rfl (lv_at hl 0 rfl) ?_
    refine g_PF_referenceWords hX t_97 hWd hv0 d_PF_takeTopReference_33 ?_
    refine lv_iadd hx hb d_PF_takeTopReference_36 ?_
    refine p_PF_next hX t_94 hWd hv0 d_PF_takeTopReference_37 (fun H locs hWd => ?_)
    obtain ⟨M7, eM7, h⟩ := stE h
    rw [← eM7] at hWd
    refine lv_aload_n hx hb d_PF_takeTopReference_40 rfl (lv_at hl 0 rfl) ?_
    refine g_PF_words hX t_89 hWd hv0 d_PF_takeTopReference_41 ?_
    have q8 := v_PF_words hWd hv0
    refine lv_iconst (v := 1) hx hb d_PF_takeTopReference_44 (by decide) ?_
    refine lv_aload_n hx hb d_PF_takeTopReference_45 rfl (lv_at hl 0 rfl) ?_
    refine g_PF_referenceWords hX t_97 hWd hv0 d_PF_takeTopReference_46 ?_
    obtain ⟨q9, hq9, h⟩ := ob h
    refine kc_l (va_runSN (As := [.ref (gr M7 v0 0), .int 1, .int (gi M7 v0 6)]) (rest := []) hX (m_NT_digest l  (gr M7 v0 0) 1 (gi M7 v0 6) q8 hq9) (cn_NT_digest hts hWd.2.2.2.2.2.2.2.2.2 ⟨Nat.le_of_ble_eq_true rfl, Nat.le_of_ble_eq_true rfl⟩) hWd.preS rfl rfl hl.1 rfl (lv_room (Nat.le_of_ble_eq_true rfl)) d_PF_takeTopReference_49 ⟨Nat.zero_le _, Nat.zero_le _⟩) hWd (fun H locs hWd => ?_)
    refine lv_lload_n hx hb d_PF_takeTopReference_52 rfl (lv_at hl 1 rfl) ?_
    refine W.lcmp hx hb d_PF_takeTopReference_53 ?_
    refine lv_if_eq (tgt := 62) hx hb d_PF_takeTopReference_54 (by decide) (fun hc => ?_) (fun hc => ?_)
    · replace h := ifP h hc
      obtain rfl := Option.some.inj h
      exact e_vret hX hr hlk hWd d_PF_takeTopReference_62
    · replace h := ifN h hc
      refine lv_aload_n hx hb d_PF_takeTopReference_57 rfl (lv_at hl 0 rfl) ?_
      refine lv_iconst (v := 2) hx hb d_PF_takeTopReference_58 (by decide) ?_
      refine p_PF_state hX t_93 hWd hv0 d_PF_takeTopReference_59 (fun H locs hWd => ?_)
      obtain ⟨M10, eM10, h⟩ := stE h
      rw [← eM10] at hWd
      obtain rfl := Option.some.inj h
      exact e_vret hX hr hlk hWd d_PF_takeTopReference_62
  · replace h := ifP h hc
    refine lv_aload_n hx hb d_PF_takeTopReference_8 rfl (lv_at hl 0 rfl) ?_
    refine lv_iconst (v := 2) hx hb d_PF_takeTopReference_9 (by decide) ?_
    refine p_PF_state hX t_93 hWd hv0 d_PF_takeTopReference_10 (fun H locs hWd => ?_)
    obtain ⟨M11, eM11, h⟩ := stE h
    rw [← eM11] at hWd
    obtain rfl := Option.some.inj h
    exact e_vret hX hr hlk hWd d_PF_takeTopReference_13
set_option maxHeartbeats 4000000 in
set_option maxRecDepth 100000 in
theorem w_PF_shows_18 {p : Program} {l : Launch} {e : Env} {s : State} {m : MethodId} {args : Array Value} {below : List Frame} {meth : Method} {c : Code} {E : En} {K G : Nat → Nat} {L : List Nat} (hX : CallFix p m c b_PF_shows 7 s args w_PF_shows "NibbleTrie$Proof") (hr : meth.sig.returnType = (some .boolean)) (hlk : meth.locks = false) {out : Int32 × Mm} : ∀ (n : Nat) (v0 : Nat) (v4 : Int64) (v6 : Int32) (M : Mm) (H : Heap) (locs : List Loc) (ls : Array Slot), K v0 = 8 → lv_has ls 7 [(0, .ref v0), (4, .long v4), (6, .int v6)] → Wd E K G L M s.heap H locs s → f_PF_shows_18 G n v0 v4 v6 M = some out → W p l e rm_PF_shows s m args below meth c H locs 0 0 (MQ below (QZ E K G L s.heap.size out.1 out.2) args s 0 0 (AL L s.heap.size)) (F0 m 18 ls []) := by
  have hx := hX.1
  have hb := hX.2.1
  have hown := hX.2.2.2.1
  have hts := hX.2.2.2.2
  intro n
  induction n with
  | zero => intro _ _ _ _ _ _ _ _ _ _ h; rw [f_PF_shows_18] at h; cases h
  | succ n ih =>
    intro v0 v4 v6 M H locs ls hv0 hl hWd h
    rw [f_PF_shows_18] at h
    refine lv_iload hx hb d_PF_shows_18 (lv_at hl 2 rfl) ?_
    refine lv_iconst (v := 5) hx hb d_PF_shows_20 (by decide) ?_
    refine lv_icmp_ge (tgt := 100) hx hb d_PF_shows_21 (by decide) (fun hc => ?_) (fun hc => ?_)
    · replace h := ifP h hc
      refine lv_aload_n hx hb d_PF_shows_100 rfl (lv_at hl 0 rfl) ?_
      refine g_PF_state hX t_93 hWd hv0 d_PF_shows_101 ?_
      refine lv_iconst (v := 1) hx hb d_PF_shows_104 (by decide) ?_
      refine lv_icmp_ne (tgt := 133) hx hb d_PF_shows_105 (by decide) (fun hc => ?_) (fun hc => ?_)
      · replace h := ifN h hc
        refine lv_iconst (v := 0) hx hb d_PF_shows_133 (by decide) ?_
        obtain rfl := Option.some.inj h
        exact e_zret hX hr hlk hWd (Or.inl rfl) d_PF_shows_134
      · replace h := ifP h hc
        refine lv_aload_n hx hb d_PF_shows_108 rfl (lv_at hl 0 rfl) ?_
        refine g_PF_next hX t_94 hWd hv0 d_PF_shows_109 ?_
        refine lv_aload_n hx hb d_PF_shows_112 rfl (lv_at hl 0 rfl) ?_
        refine g_PF_length hX t_91 hWd hv0 d_PF_shows_113 ?_
        refine lv_icmp_ne (tgt := 133) hx hb d_PF_shows_116 (by decide) (fun hc => ?_) (fun hc => ?_)
        · replace h := ifN h hc
          refine lv_iconst (v := 0) hx hb d_PF_shows_133 (by decide) ?_
          obtain rfl := Option.some.inj h
          exact e_zret hX hr hlk hWd (Or.inl rfl) d_PF_shows_134
        · replace h := ifP h hc
          refine lv_aload_n hx hb d_PF_shows_119 rfl (lv_at hl 0 rfl) ?_
          refine g_PF_shown hX t_98 hWd hv0 d_PF_shows_120 ?_
          refine lv_lload hx hb d_PF_shows_123 (lv_at hl 1 rfl) ?_
          refine W.lcmp hx hb d_PF_shows_125 ?_
          refine lv_if_ne (tgt := 133) hx hb d_PF_shows_126 (by decide) (fun hc => ?_) (fun hc => ?_)
          · replace h := ifN h hc
            refine lv_iconst (v := 0) hx hb d_PF_shows_133 (by decide) ?_
            obtain rfl := Option.some.inj h
            exact e_zret hX hr hlk hWd (Or.inl rfl) d_PF_shows_134
          · replace h := ifP h hc
            refine lv_iconst (v := 1) hx hb d_PF_shows_129 (by decide) ?_
            refine lv_goto (tgt := 134) hx hb d_PF_shows_130 (by decide) ?_
            obtain rfl := Option.some.inj h
            exact e_zret hX hr hlk hWd (Or.inr rfl) d_PF_shows_134
    · replace h := ifN h hc
      refine lv_aload_n hx hb d_PF_shows_24 rfl (lv_at hl 0 rfl) ?_
      refine g_PF_state hX t_93 hWd hv0 d_PF_shows_25 ?_
      refine lv_if_ne (tgt := 100) hx hb d_PF_shows_28 (by decide) (fun hc => ?_) (fun hc => ?_)
      · replace h := ifN h hc
        refine lv_aload_n hx hb d_PF_shows_100 rfl (lv_at hl 0 rfl) ?_
        refine g_PF_state hX t_93 hWd hv0 d_PF_shows_101 ?_
        refine lv_iconst (v := 1) hx hb d_PF_shows_104 (by decide) ?_
        refine lv_icmp_ne (tgt := 133) hx hb d_PF_shows_105 (by decide) (fun hc => ?_) (fun hc => ?_)
        · replace h := ifN h hc
          refine lv_iconst (v := 0) hx hb d_PF_shows_133 (by decide) ?_
          obtain rfl := Option.some.inj h
          exact e_zret hX hr hlk hWd (Or.inl rfl) d_PF_shows_134
        · replace h := ifP h hc
          refine lv_aload_n hx hb d_PF_shows_108 rfl (lv_at hl 0 rfl) ?_
          refine g_PF_next hX t_94 hWd hv0 d_PF_shows_109 ?_
          refine lv_aload_n hx hb d_PF_shows_112 rfl (lv_at hl 0 rfl) ?_
          refine g_PF_length hX t_91 hWd hv0 d_PF_shows_113 ?_
          refine lv_icmp_ne (tgt := 133) hx hb d_PF_shows_116 (by decide) (fun hc => ?_) (fun hc => ?_)
          · replace h := ifN h hc
            refine lv_iconst (v := 0) hx hb d_PF_shows_133 (by decide) ?_
            obtain rfl := Option.some.inj h
            exact e_zret hX hr hlk hWd (Or.inl rfl) d_PF_shows_134
          · replace h := ifP h hc
            refine lv_aload_n hx hb d_PF_shows_119 rfl (lv_at hl 0 rfl) ?_
            refine g_PF_shown hX t_98 hWd hv0 d_PF_shows_120 ?_
            refine lv_lload hx hb d_PF_shows_123 (lv_at hl 1 rfl) ?_
            refine W.lcmp hx hb d_PF_shows_125 ?_
            refine lv_if_ne (tgt := 133) hx hb d_PF_shows_126 (by decide) (fun hc => ?_) (fun hc => ?_)
            · replace h := ifN h hc
              refine lv_iconst (v := 0) hx hb d_PF_shows_133 (by decide) ?_
              obtain rfl := Option.some.inj h
              exact e_zret hX hr hlk hWd (Or.inl rfl) d_PF_shows_134
            · replace h := ifP h hc
              refine lv_iconst (v := 1) hx hb d_PF_shows_129 (by decide) ?_
              refine lv_goto (tgt := 134) hx hb d_PF_shows_130 (by decide) ?_
              obtain rfl := Option.some.inj h
              exact e_zret hX hr hlk hWd (Or.inr rfl) d_PF_shows_134
      · replace h := ifP h hc
        refine lv_aload_n hx hb d_PF_shows_31 rfl (lv_at hl 0 rfl) ?_
        refine g_PF_referenceWords hX t_97 hWd hv0 d_PF_shows_32 ?_
        refine lv_if_ne (tgt := 46) hx hb d_PF_shows_35 (by decide) (fun hc => ?_) (fun hc => ?_)
        · replace h := ifN h hc
          refine lv_aload_n hx hb d_PF_shows_46 rfl (lv_at hl 0 rfl) ?_
          refine g_PF_referenceWords hX t_97 hWd hv0 d_PF_shows_47 ?_
          refine lv_iconst (v := 1) hx hb d_PF_shows_50 (by decide) ?_
          refine lv_icmp_ne (tgt := 70) hx hb d_PF_shows_51 (by decide) (fun hc => ?_) (fun hc => ?_)
          · replace h := ifN h hc
            refine lv_aload_n hx hb d_PF_shows_70 rfl (lv_at hl 0 rfl) ?_
            refine lv_aload_n hx hb d_PF_shows_71 rfl (lv_at hl 0 rfl) ?_
            refine g_PF_words hX t_89 hWd hv0 d_PF_shows_72 ?_
            have q1 := v_PF_words hWd hv0
            refine lv_aload_n hx hb d_PF_shows_75 rfl (lv_at hl 0 rfl) ?_
            refine g_PF_reference hX t_96 hWd hv0 d_PF_shows_76 ?_
            obtain ⟨j2, hj2, h⟩ := ob h
            refine r_lald hX hWd q1 hj2 d_PF_shows_79 ?_
            refine lv_aload_n hx hb d_PF_shows_80 rfl (lv_at hl 0 rfl) ?_
            refine g_PF_words hX t_89 hWd hv0 d_PF_shows_81 ?_
            have q3 := v_PF_words hWd hv0
            refine lv_aload_n hx hb d_PF_shows_84 rfl (lv_at hl 0 rfl) ?_
            refine g_PF_reference hX t_96 hWd hv0 d_PF_shows_85 ?_
            refine lv_iconst (v := 1) hx hb d_PF_shows_88 (by decide) ?_
            refine lv_iadd hx hb d_PF_shows_89 ?_
            obtain ⟨j4, hj4, h⟩ := ob h
            refine r_lald hX hWd q3 hj4 d_PF_shows_90 ?_
            obtain ⟨q5, hq5, h⟩ := stE h
            refine kc_v (va_runV (As := [.long (gl M (gr M v0 0) j2), .long (gl M (gr M v0 0) j4)]) (rest := []) hX (m_PF_followPair l  v0 (gl M (gr M v0 0) j2) (gl M (gr M v0 0) j4) hv0 hq5.symm) (cb_PF_followPair hts t_396 ⟨Nat.le_of_ble_eq_true rfl, Nat.le_of_ble_eq_true rfl⟩) (pv_PF hWd hv0) rfl rfl hl.1 rfl (lv_room (Nat.le_of_ble_eq_true rfl)) d_PF_shows_91 ⟨Nat.zero_le _, Nat.zero_le _⟩) hWd (fun H locs hWd => ?_)
            refine lv_iinc (k := 2) (v := (v6 + 1)) (lv' := [(6, .int (v6 + 1)), (0, .ref v0), (4, .long v4)]) hx hb d_PF_shows_94 hl rfl (by rfl) (by decide) rfl (fun ls hl => ?_)
            refine lv_goto (tgt := 18) hx hb d_PF_shows_97 (by decide) ?_
            exact ih v0 v4 (v6 + 1) q5 _ _ _ hv0 (lv_sub hl [1, 2, 0] rfl) hWd h
          · replace h := ifP h hc
            refine lv_aload_n hx hb d_PF_shows_54 rfl (lv_at hl 0 rfl) ?_
            refine lv_aload_n hx hb d_PF_shows_55 rfl (lv_at hl 0 rfl) ?_
            refine g_PF_words hX t_89 hWd hv0 d_PF_shows_56 ?_
            have q6 := v_PF_words hWd hv0
            refine lv_aload_n hx hb d_PF_shows_59 rfl (lv_at hl 0 rfl) ?_
            refine g_PF_reference hX t_96 hWd hv0 d_PF_shows_60 ?_
            obtain ⟨j7, hj7, h⟩ := ob h
            refine r_lald hX hWd q6 hj7 d_PF_shows_63 ?_
            obtain ⟨q8, hq8, h⟩ := ob h
            refine kc_v (va_runV (As := [.long (gl M (gr M v0 0) j7)]) (rest := []) hX (m_PF_followDigest l  v0 (gl M (gr M v0 0) j7) hv0 hq8) (cb_PF_followDigest hts t_390 ⟨Nat.le_of_ble_eq_true rfl, Nat.le_of_ble_eq_true rfl⟩) (pv_PF hWd hv0) rfl rfl hl.1 rfl (lv_room (Nat.le_of_ble_eq_true rfl)) d_PF_shows_64 ⟨Nat.zero_le _, Nat.zero_le _⟩) hWd (fun H locs hWd => ?_)
            refine lv_goto (tgt := 94) hx hb d_PF_shows_67 (by decide) ?_
            refine lv_iinc (k := 2) (v := (v6 + 1)) (lv' := [(6, .int (v6 + 1)), (0, .ref v0), (4, .long v4)]) hx hb d_PF_shows_94 hl rfl (by rfl) (by decide) rfl (fun ls hl => ?_)
            refine lv_goto (tgt := 18) hx hb d_PF_shows_97 (by decide) ?_
            exact ih v0 v4 (v6 + 1) q8 _ _ _ hv0 (lv_sub hl [1, 2, 0] rfl) hWd h
        · replace h := ifP h hc
          refine lv_aload_n hx hb d_PF_shows_38 rfl (lv_at hl 0 rfl) ?_
          refine lv_lconst (v := 0) hx hb d_PF_shows_39 (by decide) ?_
          obtain ⟨q9, hq9, h⟩ := stE h
          refine kc_v (va_runV (As := [.long 0]) (rest := []) hX (m_PF_end l  v0 0 hv0 hq9.symm) (cb_PF_end hts t_386 ⟨Nat.le_of_ble_eq_true rfl, Nat.le_of_ble_eq_true rfl⟩) (pv_PF hWd hv0) rfl rfl hl.1 rfl (lv_room (Nat.le_of_ble_eq_true rfl)) d_PF_shows_40 ⟨Nat.zero_le _, Nat.zero_le _⟩) hWd (fun H locs hWd => ?_)
          refine lv_goto (tgt := 94) hx hb d_PF_shows_43 (by decide) ?_
          refine lv_iinc (k := 2) (v := (v6 + 1)) (lv' := [(6, .int (v6 + 1)), (0, .ref v0), (4, .long v4)]) hx hb d_PF_shows_94 hl rfl (by rfl) (by decide) rfl (fun ls hl => ?_)
          refine lv_goto (tgt := 18) hx hb d_PF_shows_97 (by decide) ?_
          exact ih v0 v4 (v6 + 1) q9 _ _ _ hv0 (lv_sub hl [1, 2, 0] rfl) hWd h
set_option maxHeartbeats 4000000 in
set_option maxRecDepth 100000 in
theorem m_PF_shows (l : Launch) {E : En} {K G : Nat → Nat} {L : List Nat} {M : Mm} {sz : Nat} {out : Int32 × Mm} (v0 : Nat) (v1 : Int64) (v3 : Int32) (v4 : Int64) (hv0 : K v0 = 8) (h : f_PF_shows G v0 v1 v3 v4 M = some out) : Met l y_PF_shows w_PF_shows rm_PF_shows (va_Pc [.ref v0, .long v1, .int v3, .long v4] (Wp E K G L M sz)) (QZ E K G L sz out.1 out.2) 0 0 (AL L sz) := by
  refine Met.ofW (cc := b_PF_shows) (maxL := 7) (ret := (some .boolean)) (by decide) rfl ?_
  intro p e s m av below meth c s₁ B hml hv
  obtain ⟨rfl, hWp⟩ := hv
  have hWd := Wd.start hWp
  obtain ⟨rfl, -⟩ := hWp
  have hX : CallFix p m c b_PF_shows 7 s _ w_PF_shows "NibbleTrie$Proof" := ⟨B.exec, B.bytes, hml, findClass_of_methodNamed B.named, atoms_spec (ws := w_PF_shows) B.pre⟩
  have hx := hX.1
  have hb := hX.2.1
  have hown := hX.2.2.2.1
  have hts := hX.2.2.2.2
  have hr := B.returns
  have hlk := B.notSynchronized
  have hl := lv_entry ([.ref v0, .long v1, .int v3, .long v4]) (n := 7) (Nat.le_of_ble_eq_true rfl)
  rw [lg_entry_eq]
  generalize (lg_sl ([.ref v0, .long v1, .int v3, .long v4]) ++ List.replicate (7 - (lg_sl ([.ref v0, .long v1, .int v3, .long v4])).length) Slot.unset).toArray = ls at hl ⊢
  have hl : lv_has ls 7 [(0, .ref v0), (1, .long v1), (3, .int v3), (4, .long v4)] := hl
  unfold f_PF_shows at h
  refine lv_aload_n hx hb d_PF_shows_0 rfl (lv_at hl 0 rfl) ?_
  refine lv_iconst (v := 0) hx hb d_PF_shows_1 (by decide) ?_
  refine p_PF_state hX t_93 hWd hv0 d_PF_shows_2 (fun H locs hWd => ?_)
  obtain ⟨M1, eM1, h⟩ := stE h
  rw [← eM1] at hWd
  refine lv_aload_n hx hb d_PF_shows_5 rfl (lv_at hl 0 rfl) ?_
  refine lv_iload_n hx hb d_PF_shows_6 rfl (lv_at hl 2 rfl) ?_
  refine p_PF_left hX t_95 hWd hv0 d_PF_shows_7 (fun H locs hWd => ?_)
  obtain ⟨M2, eM2, h⟩ := stE h
  rw [← eM2] at hWd
  refine lv_aload_n hx hb d_PF_shows_10 rfl (lv_at hl 0 rfl) ?_
  refine lv_lload_n hx hb d_PF_shows_11 rfl (lv_at hl 1 rfl) ?_
  obtain ⟨q3, hq3, h⟩ := ob h
  refine kc_v (va_runV (As := [.long v1]) (rest := []) hX (m_PF_takeTopReference l  v0 v1 hv0 hq3) (cb_PF_takeTopReference hts t_375 ⟨Nat.le_of_ble_eq_true rfl, Nat.le_of_ble_eq_true rfl⟩) (pv_PF hWd hv0) rfl rfl hl.1 rfl (lv_room (Nat.le_of_ble_eq_true rfl)) d_PF_shows_12 ⟨Nat.zero_le _, Nat.zero_le _⟩) hWd (fun H locs hWd => ?_)
  refine lv_iconst (v := 0) hx hb d_PF_shows_15 (by decide) ?_
  refine lv_istore (lv' := [(6, .int 0), (0, .ref v0), (1, .long v1), (3, .int v3), (4, .long v4)]) hx hb d_PF_shows_16 hl (by decide) rfl (fun ls hl => ?_)
  exact w_PF_shows_18 hX hr hlk FU v0 v4 0 q3 _ _ _ hv0 (lv_sub hl [1, 4, 0] rfl) hWd h
