/-! the walks of these methods, by program out of the bytecode -/
set_option maxHeartbeats 4000000 in
set_option maxRecDepth 100000 in
theorem m_MO_mixed (l : Launch) {out : Int64} (v0 : Int64) (v2 : Int64) (h : f_MO_mixed v0 v2 = out) : Met l y_MO_mixed w_MO_mixed rm_MO_mixed (fun v _ => v = [.long v0, .long v2].toArray) (PL out) 0 0 (fun _ => False) := by
  refine Met.ofW (cc := b_MO_mixed) (maxL := 6) (ret := (some .long)) (by decide) rfl ?_
  intro p e s m av below meth c s₁ B hml hv
  subst hv
  have hX : CallFix p m c b_MO_mixed 6 s _ w_MO_mixed "NibbleTrieModel" := ⟨B.exec, B.bytes, hml, findClass_of_methodNamed B.named, atoms_spec (ws := w_MO_mixed) B.pre⟩
  have hx := hX.1
  have hb := hX.2.1
  have hown := hX.2.2.2.1
  have hts := hX.2.2.2.2
  have hr := B.returns
  have hlk := B.notSynchronized
  have hl := lv_entry ([.long v0, .long v2]) (n := 6) (Nat.le_of_ble_eq_true rfl)
  rw [lg_entry_eq]
  generalize (lg_sl ([.long v0, .long v2]) ++ List.replicate (6 - (lg_sl ([.long v0, .long v2])).length) Slot.unset).toArray = ls at hl ⊢
  have hl : lv_has ls 6 [(0, .long v0), (2, .long v2)] := hl
  unfold f_MO_mixed at h
  refine lv_lload_n hx hb d_MO_mixed_0 rfl (lv_at hl 0 rfl) ?_
  refine lv_lload_n hx hb d_MO_mixed_1 rfl (lv_at hl 1 rfl) ?_
  refine lv_lxor hx hb d_MO_mixed_2 ?_
  refine lv_ldc2 (v := (-7046029254386353131)) hx hb hown (hts _ (List.mem_cons_of_mem _ t_543)) d_MO_mixed_3 ?_
  refine lv_lmul hx hb d_MO_mixed_6 ?_
  refine lv_topl (fun x1 ex1 => ?_)
  replace h := stA h ex1
  refine lv_lstore (lv' := [(4, .long x1), (0, .long v0), (2, .long v2)]) hx hb d_MO_mixed_7 hl (by decide) rfl (fun ls hl => ?_)
  refine lv_lload hx hb d_MO_mixed_9 (lv_at hl 0 rfl) ?_
  refine lv_lload hx hb d_MO_mixed_11 (lv_at hl 0 rfl) ?_
  refine lv_bipush (v := 29) hx hb d_MO_mixed_13 (by decide) ?_
  refine lv_lushr hx hb d_MO_mixed_15 rfl ?_
  refine lv_lxor hx hb d_MO_mixed_16 ?_
  subst h
  exact p_lret hX hr hlk d_MO_mixed_17
set_option maxHeartbeats 4000000 in
set_option maxRecDepth 100000 in
theorem w_MO_digestOfWords_8 {p : Program} {l : Launch} {e : Env} {s : State} {m : MethodId} {args : Array Value} {below : List Frame} {meth : Method} {c : Code} {E : En} {K G : Nat → Nat} {L : List Nat} (hX : CallFix p m c b_MO_digestOfWords 4 s args w_MO_digestOfWords "NibbleTrieModel") (hr : meth.sig.returnType = (some .long)) (hlk : meth.locks = false) {out : Int64} : ∀ (n : Nat) (v0 : Nat) (v1 : Int64) (v3 : Int32) (M : Mm) (H : Heap) (locs : List Loc) (ls : Array Slot), K v0 = 9 → lv_has ls 4 [(0, .ref v0), (1, .long v1), (3, .int v3)] → Wd E K G L M s.heap H locs s → f_MO_digestOfWords_8 G n v0 v1 v3 M = some out → W p l e rm_MO_digestOfWords s m args below meth c H locs 0 0 (MQ below (QL E K G L s.heap.size out M) args s 0 0 (AL L s.heap.size)) (F0 m 8 ls []) := by
  have hx := hX.1
  have hb := hX.2.1
  have hown := hX.2.2.2.1
  have hts := hX.2.2.2.2
  intro n
  induction n with
  | zero => intro _ _ _ _ _ _ _ _ _ _ h; rw [f_MO_digestOfWords_8] at h; cases h
  | succ n ih =>
    intro v0 v1 v3 M H locs ls hv0 hl hWd h
    rw [f_MO_digestOfWords_8] at h
    refine lv_iload_n hx hb d_MO_digestOfWords_8 rfl (lv_at hl 2 rfl) ?_
    refine lv_aload_n hx hb d_MO_digestOfWords_9 rfl (lv_at hl 0 rfl) ?_
    refine g_MO_length hX t_421 hWd hv0 d_MO_digestOfWords_10 ?_
    refine lv_icmp_ge (tgt := 33) hx hb d_MO_digestOfWords_13 (by decide) (fun hc => ?_) (fun hc => ?_)
    · replace h := ifP h hc
      refine lv_lload_n hx hb d_MO_digestOfWords_33 rfl (lv_at hl 1 rfl) ?_
      obtain rfl := Option.some.inj h
      exact e_lret hX hr hlk hWd d_MO_digestOfWords_34
    · replace h := ifN h hc
      refine lv_lload_n hx hb d_MO_digestOfWords_16 rfl (lv_at hl 1 rfl) ?_
      refine lv_aload_n hx hb d_MO_digestOfWords_17 rfl (lv_at hl 0 rfl) ?_
      refine g_MO_words hX t_420 hWd hv0 d_MO_digestOfWords_18 ?_
      have q1 := v_MO_words hWd hv0
      refine lv_iload_n hx hb d_MO_digestOfWords_21 rfl (lv_at hl 2 rfl) ?_
      obtain ⟨j2, hj2, h⟩ := ob h
      refine r_lald hX hWd q1 hj2 d_MO_digestOfWords_22 ?_
      refine kp_l (va_runS (As := [.long v1, .long (gl M (gr M v0 8) j2)]) (rest := []) hX (m_MO_mixed l  v1 (gl M (gr M v0 8) j2) rfl) (cb_MO_mixed hts t_540 ⟨Nat.le_of_ble_eq_true rfl, Nat.le_of_ble_eq_true rfl⟩) preEq rfl rfl hl.1 rfl (lv_room (Nat.le_of_ble_eq_true rfl)) d_MO_digestOfWords_23 ⟨Nat.zero_le _, Nat.zero_le _⟩) ?_
      refine lv_topl (fun x3 ex3 => ?_)
      replace h := stA h ex3
      refine lv_lstore_n (lv' := [(1, .long x3), (0, .ref v0), (3, .int v3)]) hx hb d_MO_digestOfWords_26 rfl hl (by decide) rfl (fun ls hl => ?_)
      refine lv_iinc (k := 2) (v := (v3 + 1)) (lv' := [(3, .int (v3 + 1)), (1, .long x3), (0, .ref v0)]) hx hb d_MO_digestOfWords_27 hl rfl (by rfl) (by decide) rfl (fun ls hl => ?_)
      refine lv_goto (tgt := 8) hx hb d_MO_digestOfWords_30 (by decide) ?_
      exact ih v0 x3 (v3 + 1) M _ _ _ hv0 (lv_sub hl [2, 1, 0] rfl) hWd h
set_option maxHeartbeats 4000000 in
set_option maxRecDepth 100000 in
theorem m_MO_digestOfWords (l : Launch) {E : En} {K G : Nat → Nat} {L : List Nat} {M : Mm} {sz : Nat} {out : Int64} (v0 : Nat) (hv0 : K v0 = 9) (h : f_MO_digestOfWords G v0 M = some out) : Met l y_MO_digestOfWords w_MO_digestOfWords rm_MO_digestOfWords (va_Pc [.ref v0] (Wp E K G L M sz)) (QL E K G L sz out M) 0 0 (AL L sz) := by
  refine Met.ofW (cc := b_MO_digestOfWords) (maxL := 4) (ret := (some .long)) (by decide) rfl ?_
  intro p e s m av below meth c s₁ B hml hv
  obtain ⟨rfl, hWp⟩ := hv
  have hWd := Wd.start hWp
  obtain ⟨rfl, -⟩ := hWp
  have hX : CallFix p m c b_MO_digestOfWords 4 s _ w_MO_digestOfWords "NibbleTrieModel" := ⟨B.exec, B.bytes, hml, findClass_of_methodNamed B.named, atoms_spec (ws := w_MO_digestOfWords) B.pre⟩
  have hx := hX.1
  have hb := hX.2.1
  have hown := hX.2.2.2.1
  have hts := hX.2.2.2.2
  have hr := B.returns
  have hlk := B.notSynchronized
  have hl := lv_entry ([.ref v0]) (n := 4) (Nat.le_of_ble_eq_true rfl)
  rw [lg_entry_eq]
  generalize (lg_sl ([.ref v0]) ++ List.replicate (4 - (lg_sl ([.ref v0])).length) Slot.unset).toArray = ls at hl ⊢
  have hl : lv_has ls 4 [(0, .ref v0)] := hl
  unfold f_MO_digestOfWords at h
  refine lv_aload_n hx hb d_MO_digestOfWords_0 rfl (lv_at hl 0 rfl) ?_
  refine g_MO_length hX t_421 hWd hv0 d_MO_digestOfWords_1 ?_
  refine lv_i2l hx hb d_MO_digestOfWords_4 rfl ?_
  refine lv_topl (fun x1 ex1 => ?_)
  replace h := stA h ex1
  refine lv_lstore_n (lv' := [(1, .long x1), (0, .ref v0)]) hx hb d_MO_digestOfWords_5 rfl hl (by decide) rfl (fun ls hl => ?_)
  refine lv_iconst (v := 0) hx hb d_MO_digestOfWords_6 (by decide) ?_
  refine lv_istore_n (lv' := [(3, .int 0), (1, .long x1), (0, .ref v0)]) hx hb d_MO_digestOfWords_7 rfl hl (by decide) rfl (fun ls hl => ?_)
  exact w_MO_digestOfWords_8 hX hr hlk FU v0 x1 0 M _ _ _ hv0 (lv_sub hl [2, 1, 0] rfl) hWd h
set_option maxHeartbeats 4000000 in
set_option maxRecDepth 100000 in
theorem w_MO_build_18 {p : Program} {l : Launch} {e : Env} {s : State} {m : MethodId} {args : Array Value} {below : List Frame} {meth : Method} {c : Code} {E : En} {K G : Nat → Nat} {L : List Nat} (hX : CallFix p m c b_MO_build 6 s args w_MO_build "NibbleTrieModel") (hr : meth.sig.returnType = none) (hlk : meth.locks = false) {out : Mm} (k9 : Nat → Int32 → Int32 → Mm → Option (Mm)) (hk9 : ∀ (v0 : Nat) (v1 : Int32) (v2 : Int32) (M : Mm) (H : Heap) (locs : List Loc) (ls : Array Slot), K v0 = 9 → lv_has ls 6 [(0, .ref v0), (1, .int v1), (2, .int v2)] → Wd E K G L M s.heap H locs s → k9 v0 v1 v2 M = some out → W p l e rm_MO_build s m args below meth c H locs 0 0 (MQ below (QV E K G L s.heap.size out) args s 0 0 (AL L s.heap.size)) (F0 m 9 ls [])) : ∀ (n : Nat) (v0 : Nat) (v1 : Int32) (v2 : Int32) (v3 : Int32) (M : Mm) (H : Heap) (locs : List Loc) (ls : Array Slot), K v0 = 9 → lv_has ls 6 [(0, .ref v0), (1, .int v1), (2, .int v2), (3, .int v3)] → Wd E K G L M s.heap H locs s → f_MO_build_18 G k9 n v0 v1 v2 v3 M = some out → W p l e rm_MO_build s m args below meth c H locs 0 0 (MQ below (QV E K G L s.heap.size out) args s 0 0 (AL L s.heap.size)) (F0 m 18 ls []) := by
  have hx := hX.1
  have hb := hX.2.1
  have hown := hX.2.2.2.1
  have hts := hX.2.2.2.2
  intro n
  induction n with
  | zero => intro _ _ _ _ _ _ _ _ _ _ _ h; rw [f_MO_build_18] at h; cases h
  | succ n ih =>
    intro v0 v1 v2 v3 M H locs ls hv0 hl hWd h
    rw [f_MO_build_18] at h
    refine lv_iload_n hx hb d_MO_build_18 rfl (lv_at hl 3 rfl) ?_
    refine lv_bipush (v := 16) hx hb d_MO_build_19 (by decide) ?_
    refine lv_iload_n hx hb d_MO_build_21 rfl (lv_at hl 1 rfl) ?_
    refine lv_imul hx hb d_MO_build_22 ?_
    refine lv_aload_n hx hb d_MO_build_23 rfl (lv_at hl 0 rfl) ?_
    refine g_MO_sizes hX t_414 hWd hv0 d_MO_build_24 ?_
    have q1 := v_MO_sizes hWd hv0
    refine lv_iload_n hx hb d_MO_build_27 rfl (lv_at hl 1 rfl) ?_
    obtain ⟨j2, hj2, h⟩ := ob h
    refine r_iald hX hWd q1 hj2 d_MO_build_28 ?_
    refine lv_iadd hx hb d_MO_build_29 ?_
    refine lv_icmp_ge (tgt := 159) hx hb d_MO_build_30 (by decide) (fun hc => ?_) (fun hc => ?_)
    · replace h := ifP h hc
      refine lv_iinc (k := 2) (v := (v2 + (-1))) (lv' := [(2, .int (v2 + (-1))), (0, .ref v0), (1, .int v1), (3, .int v3)]) hx hb d_MO_build_159 hl rfl (by rfl) (by decide) rfl (fun ls hl => ?_)
      refine lv_goto (tgt := 9) hx hb d_MO_build_162 (by decide) ?_
      exact hk9 v0 v1 (v2 + (-1)) M _ _ _ hv0 (lv_sub hl [1, 2, 0] rfl) hWd h
    · replace h := ifN h hc
      refine lv_aload_n hx hb d_MO_build_33 rfl (lv_at hl 0 rfl) ?_
      refine g_MO_keys hX t_412 hWd hv0 d_MO_build_34 ?_
      have q3 := v_MO_keys hWd hv0
      refine lv_iload_n hx hb d_MO_build_37 rfl (lv_at hl 3 rfl) ?_
      obtain ⟨j4, hj4, h⟩ := ob h
      refine r_iald hX hWd q3 hj4 d_MO_build_38 ?_
      refine kp_i (va_runS (As := [.int (gi M (gr M v0 0) j4)]) (rest := []) hX (m_MO_nibbles l  (gi M (gr M v0 0) j4) rfl) (cb_MO_nibbles hts t_468 ⟨Nat.le_of_ble_eq_true rfl, Nat.le_of_ble_eq_true rfl⟩) preEq rfl rfl hl.1 rfl (lv_room (Nat.le_of_ble_eq_true rfl)) d_MO_build_39 ⟨Nat.zero_le _, Nat.zero_le _⟩) ?_
      refine lv_iload_n hx hb d_MO_build_42 rfl (lv_at hl 2 rfl) ?_
      refine lv_isub hx hb d_MO_build_43 ?_
      refine lv_topi (fun x5 ex5 => ?_)
      replace h := stA h ex5
      refine lv_istore (lv' := [(4, .int x5), (0, .ref v0), (1, .int v1), (2, .int v2), (3, .int v3)]) hx hb d_MO_build_44 hl (by decide) rfl (fun ls hl => ?_)
      refine lv_iload hx hb d_MO_build_46 (lv_at hl 0 rfl) ?_
      refine lv_if_lt (tgt := 65) hx hb d_MO_build_48 (by decide) (fun hc => ?_) (fun hc => ?_)
      · replace h := ifP h hc
        refine lv_iconst (v := (-1)) hx hb d_MO_build_65 (by decide) ?_
        refine lv_istore (lv' := [(5, .int (-1)), (4, .int x5), (0, .ref v0), (1, .int v1), (2, .int v2), (3, .int v3)]) hx hb d_MO_build_66 hl (by decide) rfl (fun ls hl => ?_)
        refine lv_iload hx hb d_MO_build_68 (lv_at hl 0 rfl) ?_
        refine lv_if_le (tgt := 153) hx hb d_MO_build_70 (by decide) (fun hc => ?_) (fun hc => ?_)
        · replace h := ifP h hc
          refine lv_iinc (k := 5) (v := (v3 + 1)) (lv' := [(3, .int (v3 + 1)), (5, .int (-1)), (4, .int x5), (0, .ref v0), (1, .int v1), (2, .int v2)]) hx hb d_MO_build_153 hl rfl (by rfl) (by decide) rfl (fun ls hl => ?_)
          refine lv_goto (tgt := 18) hx hb d_MO_build_156 (by decide) ?_
          exact ih v0 v1 v2 (v3 + 1) M _ _ _ hv0 (lv_sub hl [3, 4, 5, 0] rfl) hWd h
        · replace h := ifN h hc
          refine lv_aload_n hx hb d_MO_build_73 rfl (lv_at hl 2 rfl) ?_
          refine lv_iload_n hx hb d_MO_build_74 rfl (lv_at hl 3 rfl) ?_
          refine lv_iload hx hb d_MO_build_75 (lv_at hl 0 rfl) ?_
          obtain ⟨q6, hq6, h⟩ := ob h
          refine kc_i (va_runV (As := [.int v1, .int (-1)]) (rest := []) hX (m_MO_place l  v0 v1 (-1) hv0 hq6) (cb_MO_place hts t_497 ⟨Nat.le_of_ble_eq_true rfl, Nat.le_of_ble_eq_true rfl⟩) (pv_MO hWd hv0) rfl rfl hl.1 rfl (lv_room (Nat.le_of_ble_eq_true rfl)) d_MO_build_77 ⟨Nat.zero_le _, Nat.zero_le _⟩) hWd (fun H locs hWd => ?_)
          refine lv_if_ge (tgt := 153) hx hb d_MO_build_80 (by decide) (fun hc => ?_) (fun hc => ?_)
          · replace h := ifP h hc
            refine lv_iinc (k := 5) (v := (v3 + 1)) (lv' := [(3, .int (v3 + 1)), (5, .int (-1)), (4, .int x5), (0, .ref v0), (1, .int v1), (2, .int v2)]) hx hb d_MO_build_153 hl rfl (by rfl) (by decide) rfl (fun ls hl => ?_)
            refine lv_goto (tgt := 18) hx hb d_MO_build_156 (by decide) ?_
            exact ih v0 v1 v2 (v3 + 1) M _ _ _ hv0 (lv_sub hl [3, 4, 5, 0] rfl) hWd h
          · replace h := ifN h hc
            refine lv_aload_n hx hb d_MO_build_83 rfl (lv_at hl 2 rfl) ?_
            refine lv_iload_n hx hb d_MO_build_84 rfl (lv_at hl 3 rfl) ?_
            refine lv_iload hx hb d_MO_build_85 (lv_at hl 0 rfl) ?_
            obtain ⟨q7, hq7, h⟩ := ob h
            refine kc_z (va_runV (As := [.int v1, .int (-1)]) (rest := []) hX (m_MO_isBranch l  v0 v1 (-1) hv0 hq7) (cb_MO_isBranch hts t_501 ⟨Nat.le_of_ble_eq_true rfl, Nat.le_of_ble_eq_true rfl⟩) (pv_MO hWd hv0) rfl rfl hl.1 rfl (lv_room (Nat.le_of_ble_eq_true rfl)) d_MO_build_87 ⟨Nat.zero_le _, Nat.zero_le _⟩) hWd (fun z8 H locs hWd => ?_)
            refine lv_if_eq (tgt := 153) hx hb d_MO_build_90 (by decide) (fun hc => ?_) (fun hc => ?_)
            · replace h := ifP h hc
              refine lv_iinc (k := 5) (v := (v3 + 1)) (lv' := [(3, .int (v3 + 1)), (5, .int (-1)), (4, .int x5), (0, .ref v0), (1, .int v1), (2, .int v2)]) hx hb d_MO_build_153 hl rfl (by rfl) (by decide) rfl (fun ls hl => ?_)
              refine lv_goto (tgt := 18) hx hb d_MO_build_156 (by decide) ?_
              exact ih v0 v1 v2 (v3 + 1) M _ _ _ hv0 (lv_sub hl [3, 4, 5, 0] rfl) hWd h
            · replace h := ifN h hc
              refine lv_aload_n hx hb d_MO_build_93 rfl (lv_at hl 2 rfl) ?_
              refine lv_iconst (v := 0) hx hb d_MO_build_94 (by decide) ?_
              refine p_MO_length hX t_421 hWd hv0 d_MO_build_95 (fun H locs hWd => ?_)
              obtain ⟨M9, eM9, h⟩ := stE h
              rw [← eM9] at hWd
              refine lv_aload_n hx hb d_MO_build_98 rfl (lv_at hl 2 rfl) ?_
              refine lv_iload_n hx hb d_MO_build_99 rfl (lv_at hl 3 rfl) ?_
              refine lv_iload hx hb d_MO_build_100 (lv_at hl 0 rfl) ?_
              obtain ⟨q10, hq10, h⟩ := ob h
              refine kc_v (va_runV (As := [.int v1, .int (-1)]) (rest := []) hX (m_MO_encode l  v0 v1 (-1) hv0 hq10) (cb_MO_encode hts t_520 ⟨Nat.le_of_ble_eq_true rfl, Nat.le_of_ble_eq_true rfl⟩) (pv_MO hWd hv0) rfl rfl hl.1 rfl (lv_room (Nat.le_of_ble_eq_true rfl)) d_MO_build_102 ⟨Nat.zero_le _, Nat.zero_le _⟩) hWd (fun H locs hWd => ?_)
              refine lv_aload_n hx hb d_MO_build_105 rfl (lv_at hl 2 rfl) ?_
              refine g_MO_branch hX t_417 hWd hv0 d_MO_build_106 ?_
              have q11 := v_MO_branch hWd hv0
              refine lv_bipush (v := 16) hx hb d_MO_build_109 (by decide) ?_
              refine lv_iload_n hx hb d_MO_build_111 rfl (lv_at hl 3 rfl) ?_
              refine lv_imul hx hb d_MO_build_112 ?_
              refine lv_aload_n hx hb d_MO_build_113 rfl (lv_at hl 2 rfl) ?_
              refine g_MO_branches hX t_419 hWd hv0 d_MO_build_114 ?_
              have q12 := v_MO_branches hWd hv0
              refine lv_iload_n hx hb d_MO_build_117 rfl (lv_at hl 3 rfl) ?_
              obtain ⟨j13, hj13, h⟩ := ob h
              refine r_iald hX hWd q12 hj13 d_MO_build_118 ?_
              refine lv_iadd hx hb d_MO_build_119 ?_
              refine lv_iload hx hb d_MO_build_120 (lv_at hl 0 rfl) ?_
              obtain ⟨j14, hj14, h⟩ := ob h
              refine r_iast hX hWd q11 hj14 d_MO_build_122 (fun H locs hWd => ?_)
              obtain ⟨M15, eM15, h⟩ := stE h
              rw [← eM15] at hWd
              refine lv_aload_n hx hb d_MO_build_123 rfl (lv_at hl 2 rfl) ?_
              refine g_MO_digest hX t_418 hWd hv0 d_MO_build_124 ?_
              have q16 := v_MO_digest hWd hv0
              refine lv_bipush (v := 16) hx hb d_MO_build_127 (by decide) ?_
              refine lv_iload_n hx hb d_MO_build_129 rfl (lv_at hl 3 rfl) ?_
              refine lv_imul hx hb d_MO_build_130 ?_
              refine lv_aload_n hx hb d_MO_build_131 rfl (lv_at hl 2 rfl) ?_
              refine g_MO_branches hX t_419 hWd hv0 d_MO_build_132 ?_
              have q17 := v_MO_branches hWd hv0
              refine lv_iload_n hx hb d_MO_build_135 rfl (lv_at hl 3 rfl) ?_
              obtain ⟨j18, hj18, h⟩ := ob h
              refine r_iald hX hWd q17 hj18 d_MO_build_136 ?_
              refine lv_iadd hx hb d_MO_build_137 ?_
              refine lv_aload_n hx hb d_MO_build_138 rfl (lv_at hl 2 rfl) ?_
              obtain ⟨q19, hq19, h⟩ := ob h
              refine kc_l (va_runV (As := []) (rest := [.int ((16 * v1) + (gi M15 (gr M15 v0 7) j18)), .ref (gr M15 v0 6)]) hX (m_MO_digestOfWords l  v0 hv0 hq19) (cb_MO_digestOfWords hts t_536 ⟨Nat.le_of_ble_eq_true rfl, Nat.le_of_ble_eq_true rfl⟩) (pv_MO hWd hv0) rfl rfl hl.1 rfl (lv_room (Nat.le_of_ble_eq_true rfl)) d_MO_build_139 ⟨Nat.zero_le _, Nat.zero_le _⟩) hWd (fun H locs hWd => ?_)
              obtain ⟨j20, hj20, h⟩ := ob h
              refine r_last hX hWd q16 hj20 d_MO_build_142 (fun H locs hWd => ?_)
              obtain ⟨M21, eM21, h⟩ := stE h
              rw [← eM21] at hWd
              refine lv_aload_n hx hb d_MO_build_143 rfl (lv_at hl 2 rfl) ?_
              refine g_MO_branches hX t_419 hWd hv0 d_MO_build_144 ?_
              have q22 := v_MO_branches hWd hv0
              refine lv_iload_n hx hb d_MO_build_147 rfl (lv_at hl 3 rfl) ?_
              refine lv_dup2_11 hx hb d_MO_build_148 rfl rfl ?_
              obtain ⟨j23, hj23, h⟩ := ob h
              refine r_iald hX hWd q22 hj23 d_MO_build_149 ?_
              refine lv_iconst (v := 1) hx hb d_MO_build_150 (by decide) ?_
              refine lv_iadd hx hb d_MO_build_151 ?_
              obtain ⟨j24, hj24, h⟩ := ob h
              refine r_iast hX hWd q22 hj24 d_MO_build_152 (fun H locs hWd => ?_)
              obtain ⟨M25, eM25, h⟩ := stE h
              rw [← eM25] at hWd
              refine lv_iinc (k := 5) (v := (v3 + 1)) (lv' := [(3, .int (v3 + 1)), (5, .int (-1)), (4, .int x5), (0, .ref v0), (1, .int v1), (2, .int v2)]) hx hb d_MO_build_153 hl rfl (by rfl) (by decide) rfl (fun ls hl => ?_)
              refine lv_goto (tgt := 18) hx hb d_MO_build_156 (by decide) ?_
              exact ih v0 v1 v2 (v3 + 1) M25 _ _ _ hv0 (lv_sub hl [3, 4, 5, 0] rfl) hWd h
      · replace h := ifN h hc
        refine lv_aload_n hx hb d_MO_build_51 rfl (lv_at hl 1 rfl) ?_
        refine g_MO_keys hX t_412 hWd hv0 d_MO_build_52 ?_
        have q26 := v_MO_keys hWd hv0
        refine lv_iload_n hx hb d_MO_build_55 rfl (lv_at hl 4 rfl) ?_
        obtain ⟨j27, hj27, h⟩ := ob h
        refine r_iald hX hWd q26 hj27 d_MO_build_56 ?_
        refine lv_iconst (v := 4) hx hb d_MO_build_57 (by decide) ?_
        refine lv_iload hx hb d_MO_build_58 (lv_at hl 0 rfl) ?_
        refine lv_imul hx hb d_MO_build_60 ?_
        refine lv_ishr hx hb d_MO_build_61 ?_
        refine lv_goto (tgt := 66) hx hb d_MO_build_62 (by decide) ?_
        refine lv_topi (fun x28 ex28 => ?_)
        replace h := stA h ex28
        refine lv_istore (lv' := [(5, .int x28), (4, .int x5), (0, .ref v0), (1, .int v1), (2, .int v2), (3, .int v3)]) hx hb d_MO_build_66 hl (by decide) rfl (fun ls hl => ?_)
        refine lv_iload hx hb d_MO_build_68 (lv_at hl 0 rfl) ?_
        refine lv_if_le (tgt := 153) hx hb d_MO_build_70 (by decide) (fun hc => ?_) (fun hc => ?_)
        · replace h := ifP h hc
          refine lv_iinc (k := 5) (v := (v3 + 1)) (lv' := [(3, .int (v3 + 1)), (5, .int x28), (4, .int x5), (0, .ref v0), (1, .int v1), (2, .int v2)]) hx hb d_MO_build_153 hl rfl (by rfl) (by decide) rfl (fun ls hl => ?_)
          refine lv_goto (tgt := 18) hx hb d_MO_build_156 (by decide) ?_
          exact ih v0 v1 v2 (v3 + 1) M _ _ _ hv0 (lv_sub hl [3, 4, 5, 0] rfl) hWd h
        · replace h := ifN h hc
          refine lv_aload_n hx hb d_MO_build_73 rfl (lv_at hl 2 rfl) ?_
          refine lv_iload_n hx hb d_MO_build_74 rfl (lv_at hl 3 rfl) ?_
          refine lv_iload hx hb d_MO_build_75 (lv_at hl 0 rfl) ?_
          obtain ⟨q29, hq29, h⟩ := ob h
          refine kc_i (va_runV (As := [.int v1, .int x28]) (rest := []) hX (m_MO_place l  v0 v1 x28 hv0 hq29) (cb_MO_place hts t_497 ⟨Nat.le_of_ble_eq_true rfl, Nat.le_of_ble_eq_true rfl⟩) (pv_MO hWd hv0) rfl rfl hl.1 rfl (lv_room (Nat.le_of_ble_eq_true rfl)) d_MO_build_77 ⟨Nat.zero_le _, Nat.zero_le _⟩) hWd (fun H locs hWd => ?_)
          refine lv_if_ge (tgt := 153) hx hb d_MO_build_80 (by decide) (fun hc => ?_) (fun hc => ?_)
          · replace h := ifP h hc
            refine lv_iinc (k := 5) (v := (v3 + 1)) (lv' := [(3, .int (v3 + 1)), (5, .int x28), (4, .int x5), (0, .ref v0), (1, .int v1), (2, .int v2)]) hx hb d_MO_build_153 hl rfl (by rfl) (by decide) rfl (fun ls hl => ?_)
            refine lv_goto (tgt := 18) hx hb d_MO_build_156 (by decide) ?_
            exact ih v0 v1 v2 (v3 + 1) M _ _ _ hv0 (lv_sub hl [3, 4, 5, 0] rfl) hWd h
          · replace h := ifN h hc
            refine lv_aload_n hx hb d_MO_build_83 rfl (lv_at hl 2 rfl) ?_
            refine lv_iload_n hx hb d_MO_build_84 rfl (lv_at hl 3 rfl) ?_
            refine lv_iload hx hb d_MO_build_85 (lv_at hl 0 rfl) ?_
            obtain ⟨q30, hq30, h⟩ := ob h
            refine kc_z (va_runV (As := [.int v1, .int x28]) (rest := []) hX (m_MO_isBranch l  v0 v1 x28 hv0 hq30) (cb_MO_isBranch hts t_501 ⟨Nat.le_of_ble_eq_true rfl, Nat.le_of_ble_eq_true rfl⟩) (pv_MO hWd hv0) rfl rfl hl.1 rfl (lv_room (Nat.le_of_ble_eq_true rfl)) d_MO_build_87 ⟨Nat.zero_le _, Nat.zero_le _⟩) hWd (fun z31 H locs hWd => ?_)
            refine lv_if_eq (tgt := 153) hx hb d_MO_build_90 (by decide) (fun hc => ?_) (fun hc => ?_)
            · replace h := ifP h hc
              refine lv_iinc (k := 5) (v := (v3 + 1)) (lv' := [(3, .int (v3 + 1)), (5, .int x28), (4, .int x5), (0, .ref v0), (1, .int v1), (2, .int v2)]) hx hb d_MO_build_153 hl rfl (by rfl) (by decide) rfl (fun ls hl => ?_)
              refine lv_goto (tgt := 18) hx hb d_MO_build_156 (by decide) ?_
              exact ih v0 v1 v2 (v3 + 1) M _ _ _ hv0 (lv_sub hl [3, 4, 5, 0] rfl) hWd h
            · replace h := ifN h hc
              refine lv_aload_n hx hb d_MO_build_93 rfl (lv_at hl 2 rfl) ?_
              refine lv_iconst (v := 0) hx hb d_MO_build_94 (by decide) ?_
              refine p_MO_length hX t_421 hWd hv0 d_MO_build_95 (fun H locs hWd => ?_)
              obtain ⟨M32, eM32, h⟩ := stE h
              rw [← eM32] at hWd
              refine lv_aload_n hx hb d_MO_build_98 rfl (lv_at hl 2 rfl) ?_
              refine lv_iload_n hx hb d_MO_build_99 rfl (lv_at hl 3 rfl) ?_
              refine lv_iload hx hb d_MO_build_100 (lv_at hl 0 rfl) ?_
              obtain ⟨q33, hq33, h⟩ := ob h
              refine kc_v (va_runV (As := [.int v1, .int x28]) (rest := []) hX (m_MO_encode l  v0 v1 x28 hv0 hq33) (cb_MO_encode hts t_520 ⟨Nat.le_of_ble_eq_true rfl, Nat.le_of_ble_eq_true rfl⟩) (pv_MO hWd hv0) rfl rfl hl.1 rfl (lv_room (Nat.le_of_ble_eq_true rfl)) d_MO_build_102 ⟨Nat.zero_le _, Nat.zero_le _⟩) hWd (fun H locs hWd => ?_)
              refine lv_aload_n hx hb d_MO_build_105 rfl (lv_at hl 2 rfl) ?_
              refine g_MO_branch hX t_417 hWd hv0 d_MO_build_106 ?_
              have q34 := v_MO_branch hWd hv0
              refine lv_bipush (v := 16) hx hb d_MO_build_109 (by decide) ?_
              refine lv_iload_n hx hb d_MO_build_111 rfl (lv_at hl 3 rfl) ?_
              refine lv_imul hx hb d_MO_build_112 ?_
              refine lv_aload_n hx hb d_MO_build_113 rfl (lv_at hl 2 rfl) ?_
              refine g_MO_branches hX t_419 hWd hv0 d_MO_build_114 ?_
              have q35 := v_MO_branches hWd hv0
              refine lv_iload_n hx hb d_MO_build_117 rfl (lv_at hl 3 rfl) ?_
              obtain ⟨j36, hj36, h⟩ := ob h
              refine r_iald hX hWd q35 hj36 d_MO_build_118 ?_
              refine lv_iadd hx hb d_MO_build_119 ?_
              refine lv_iload hx hb d_MO_build_120 (lv_at hl 0 rfl) ?_
              obtain ⟨j37, hj37, h⟩ := ob h
              refine r_iast hX hWd q34 hj37 d_MO_build_122 (fun H locs hWd => ?_)
              obtain ⟨M38, eM38, h⟩ := stE h
              rw [← eM38] at hWd
              refine lv_aload_n hx hb d_MO_build_123 rfl (lv_at hl 2 rfl) ?_
              refine g_MO_digest hX t_418 hWd hv0 d_MO_build_124 ?_
              have q39 := v_MO_digest hWd hv0
              refine lv_bipush (v := 16) hx hb d_MO_build_127 (by decide) ?_
              refine lv_iload_n hx hb d_MO_build_129 rfl (lv_at hl 3 rfl) ?_
              refine lv_imul hx hb d_MO_build_130 ?_
              refine lv_aload_n hx hb d_MO_build_131 rfl (lv_at hl 2 rfl) ?_
              refine g_MO_branches hX t_419 hWd hv0 d_MO_build_132 ?_
              have q40 := v_MO_branches hWd hv0
              refine lv_iload_n hx hb d_MO_build_135 rfl (lv_at hl 3 rfl) ?_
              obtain ⟨j41, hj41, h⟩ := ob h
              refine r_iald hX hWd q40 hj41 d_MO_build_136 ?_
              refine lv_iadd hx hb d_MO_build_137 ?_
              refine lv_aload_n hx hb d_MO_build_138 rfl (lv_at hl 2 rfl) ?_
              obtain ⟨q42, hq42, h⟩ := ob h
              refine kc_l (va_runV (As := []) (rest := [.int ((16 * v1) + (gi M38 (gr M38 v0 7) j41)), .ref (gr M38 v0 6)]) hX (m_MO_digestOfWords l  v0 hv0 hq42) (cb_MO_digestOfWords hts t_536 ⟨Nat.le_of_ble_eq_true rfl, Nat.le_of_ble_eq_true rfl⟩) (pv_MO hWd hv0) rfl rfl hl.1 rfl (lv_room (Nat.le_of_ble_eq_true rfl)) d_MO_build_139 ⟨Nat.zero_le _, Nat.zero_le _⟩) hWd (fun H locs hWd => ?_)
              obtain ⟨j43, hj43, h⟩ := ob h
              refine r_last hX hWd q39 hj43 d_MO_build_142 (fun H locs hWd => ?_)
              obtain ⟨M44, eM44, h⟩ := stE h
              rw [← eM44] at hWd
              refine lv_aload_n hx hb d_MO_build_143 rfl (lv_at hl 2 rfl) ?_
              refine g_MO_branches hX t_419 hWd hv0 d_MO_build_144 ?_
              have q45 := v_MO_branches hWd hv0
              refine lv_iload_n hx hb d_MO_build_147 rfl (lv_at hl 3 rfl) ?_
              refine lv_dup2_11 hx hb d_MO_build_148 rfl rfl ?_
              obtain ⟨j46, hj46, h⟩ := ob h
              refine r_iald hX hWd q45 hj46 d_MO_build_149 ?_
              refine lv_iconst (v := 1) hx hb d_MO_build_150 (by decide) ?_
              refine lv_iadd hx hb d_MO_build_151 ?_
              obtain ⟨j47, hj47, h⟩ := ob h
              refine r_iast hX hWd q45 hj47 d_MO_build_152 (fun H locs hWd => ?_)
              obtain ⟨M48, eM48, h⟩ := stE h
              rw [← eM48] at hWd
              refine lv_iinc (k := 5) (v := (v3 + 1)) (lv' := [(3, .int (v3 + 1)), (5, .int x28), (4, .int x5), (0, .ref v0), (1, .int v1), (2, .int v2)]) hx hb d_MO_build_153 hl rfl (by rfl) (by decide) rfl (fun ls hl => ?_)
              refine lv_goto (tgt := 18) hx hb d_MO_build_156 (by decide) ?_
              exact ih v0 v1 v2 (v3 + 1) M48 _ _ _ hv0 (lv_sub hl [3, 4, 5, 0] rfl) hWd h
set_option maxHeartbeats 4000000 in
set_option maxRecDepth 100000 in
theorem w_MO_build_9 {p : Program} {l : Launch} {e : Env} {s : State} {m : MethodId} {args : Array Value} {below : List Frame} {meth : Method} {c : Code} {E : En} {K G : Nat → Nat} {L : List Nat} (hX : CallFix p m c b_MO_build 6 s args w_MO_build "NibbleTrieModel") (hr : meth.sig.returnType = none) (hlk : meth.locks = false) {out : Mm} : ∀ (n : Nat) (v0 : Nat) (v1 : Int32) (v2 : Int32) (M : Mm) (H : Heap) (locs : List Loc) (ls : Array Slot), K v0 = 9 → lv_has ls 6 [(0, .ref v0), (1, .int v1), (2, .int v2)] → Wd E K G L M s.heap H locs s → f_MO_build_9 G n v0 v1 v2 M = some out → W p l e rm_MO_build s m args below meth c H locs 0 0 (MQ below (QV E K G L s.heap.size out) args s 0 0 (AL L s.heap.size)) (F0 m 9 ls []) := by
  have hx := hX.1
  have hb := hX.2.1
  have hown := hX.2.2.2.1
  have hts := hX.2.2.2.2
  intro n
  induction n with
  | zero => intro _ _ _ _ _ _ _ _ _ _ h; rw [f_MO_build_9] at h; cases h
  | succ n ih =>
    intro v0 v1 v2 M H locs ls hv0 hl hWd h
    rw [f_MO_build_9] at h
    refine lv_iload_n hx hb d_MO_build_9 rfl (lv_at hl 2 rfl) ?_
    refine lv_if_lt (tgt := 165) hx hb d_MO_build_10 (by decide) (fun hc => ?_) (fun hc => ?_)
    · replace h := ifP h hc
      obtain rfl := Option.some.inj h
      exact e_vret hX hr hlk hWd d_MO_build_165
    · replace h := ifN h hc
      refine lv_bipush (v := 16) hx hb d_MO_build_13 (by decide) ?_
      refine lv_iload_n hx hb d_MO_build_15 rfl (lv_at hl 1 rfl) ?_
      refine lv_imul hx hb d_MO_build_16 ?_
      refine lv_istore_n (lv' := [(3, .int (16 * v1)), (0, .ref v0), (1, .int v1), (2, .int v2)]) hx hb d_MO_build_17 rfl hl (by decide) rfl (fun ls hl => ?_)
      exact w_MO_build_18 hX hr hlk _ ih FU v0 v1 v2 (16 * v1) M _ _ _ hv0 (lv_sub hl [1, 2, 3, 0] rfl) hWd h
set_option maxHeartbeats 4000000 in
set_option maxRecDepth 100000 in
theorem m_MO_build (l : Launch) {E : En} {K G : Nat → Nat} {L : List Nat} {M : Mm} {sz : Nat} {out : Mm} (v0 : Nat) (v1 : Int32) (hv0 : K v0 = 9) (h : f_MO_build G v0 v1 M = some out) : Met l y_MO_build w_MO_build rm_MO_build (va_Pc [.ref v0, .int v1] (Wp E K G L M sz)) (QV E K G L sz out) 0 0 (AL L sz) := by
  refine Met.ofW (cc := b_MO_build) (maxL := 6) (ret := none) (by decide) rfl ?_
  intro p e s m av below meth c s₁ B hml hv
  obtain ⟨rfl, hWp⟩ := hv
  have hWd := Wd.start hWp
  obtain ⟨rfl, -⟩ := hWp
  have hX : CallFix p m c b_MO_build 6 s _ w_MO_build "NibbleTrieModel" := ⟨B.exec, B.bytes, hml, findClass_of_methodNamed B.named, atoms_spec (ws := w_MO_build) B.pre⟩
  have hx := hX.1
  have hb := hX.2.1
  have hown := hX.2.2.2.1
  have hts := hX.2.2.2.2
  have hr := B.returns
  have hlk := B.notSynchronized
  have hl := lv_entry ([.ref v0, .int v1]) (n := 6) (Nat.le_of_ble_eq_true rfl)
  rw [lg_entry_eq]
  generalize (lg_sl ([.ref v0, .int v1]) ++ List.replicate (6 - (lg_sl ([.ref v0, .int v1])).length) Slot.unset).toArray = ls at hl ⊢
  have hl : lv_has ls 6 [(0, .ref v0), (1, .int v1)] := hl
  unfold f_MO_build at h
  refine lv_aload_n hx hb d_MO_build_0 rfl (lv_at hl 0 rfl) ?_
  refine g_MO_branches hX t_419 hWd hv0 d_MO_build_1 ?_
  have q1 := v_MO_branches hWd hv0
  refine lv_iload_n hx hb d_MO_build_4 rfl (lv_at hl 1 rfl) ?_
  refine lv_iconst (v := 0) hx hb d_MO_build_5 (by decide) ?_
  obtain ⟨j2, hj2, h⟩ := ob h
  refine r_iast hX hWd q1 hj2 d_MO_build_6 (fun H locs hWd => ?_)
  obtain ⟨M3, eM3, h⟩ := stE h
  rw [← eM3] at hWd
  refine lv_iconst (v := 3) hx hb d_MO_build_7 (by decide) ?_
  refine lv_istore_n (lv' := [(2, .int 3), (0, .ref v0), (1, .int v1)]) hx hb d_MO_build_8 rfl hl (by decide) rfl (fun ls hl => ?_)
  exact w_MO_build_9 hX hr hlk FU v0 v1 3 M3 _ _ _ hv0 (lv_sub hl [1, 2, 0] rfl) hWd h
set_option maxHeartbeats 4000000 in
set_option maxRecDepth 100000 in
theorem m_MO_rootOf (l : Launch) {E : En} {K G : Nat → Nat} {L : List Nat} {M : Mm} {sz : Nat} {out : Int64 × Mm} (v0 : Nat) (v1 : Int32) (hv0 : K v0 = 9) (h : f_MO_rootOf G v0 v1 M = some out) : Met l y_MO_rootOf w_MO_rootOf rm_MO_rootOf (va_Pc [.ref v0, .int v1] (Wp E K G L M sz)) (QL E K G L sz out.1 out.2) 0 0 (AL L sz) := by
  refine Met.ofW (cc := b_MO_rootOf) (maxL := 2) (ret := (some .long)) (by decide) rfl ?_
  intro p e s m av below meth c s₁ B hml hv
  obtain ⟨rfl, hWp⟩ := hv
  have hWd := Wd.start hWp
  obtain ⟨rfl, -⟩ := hWp
  have hX : CallFix p m c b_MO_rootOf 2 s _ w_MO_rootOf "NibbleTrieModel" := ⟨B.exec, B.bytes, hml, findClass_of_methodNamed B.named, atoms_spec (ws := w_MO_rootOf) B.pre⟩
  have hx := hX.1
  have hb := hX.2.1
  have hown := hX.2.2.2.1
  have hts := hX.2.2.2.2
  have hr := B.returns
  have hlk := B.notSynchronized
  have hl := lv_entry ([.ref v0, .int v1]) (n := 2) (Nat.le_of_ble_eq_true rfl)
  rw [lg_entry_eq]
  generalize (lg_sl ([.ref v0, .int v1]) ++ List.replicate (2 - (lg_sl ([.ref v0, .int v1])).length) Slot.unset).toArray = ls at hl ⊢
  have hl : lv_has ls 2 [(0, .ref v0), (1, .int v1)] := hl
  unfold f_MO_rootOf at h
  refine lv_aload_n hx hb d_MO_rootOf_0 rfl (lv_at hl 0 rfl) ?_
  refine lv_iconst (v := 0) hx hb d_MO_rootOf_1 (by decide) ?_
  refine p_MO_length hX t_421 hWd hv0 d_MO_rootOf_2 (fun H locs hWd => ?_)
  obtain ⟨M1, eM1, h⟩ := stE h
  rw [← eM1] at hWd
  refine lv_aload_n hx hb d_MO_rootOf_5 rfl (lv_at hl 0 rfl) ?_
  refine lv_iload_n hx hb d_MO_rootOf_6 rfl (lv_at hl 1 rfl) ?_
  refine lv_iconst (v := 1) hx hb d_MO_rootOf_7 (by decide) ?_
  refine lv_iconst (v := 0) hx hb d_MO_rootOf_8 (by decide) ?_
  obtain ⟨q2, hq2, h⟩ := ob h
  refine kc_v (va_runV (As := [.int v1, .int 1, .int 0]) (rest := []) hX (m_MO_reference l  v0 v1 1 0 hv0 hq2) (cb_MO_reference hts t_524 ⟨Nat.le_of_ble_eq_true rfl, Nat.le_of_ble_eq_true rfl⟩) (pv_MO hWd hv0) rfl rfl hl.1 rfl (lv_room (Nat.le_of_ble_eq_true rfl)) d_MO_rootOf_9 ⟨Nat.zero_le _, Nat.zero_le _⟩) hWd (fun H locs hWd => ?_)
  refine lv_aload_n hx hb d_MO_rootOf_12 rfl (lv_at hl 0 rfl) ?_
  obtain ⟨q3, hq3, h⟩ := ob h
  refine kc_l (va_runV (As := []) (rest := []) hX (m_MO_digestOfWords l  v0 hv0 hq3) (cb_MO_digestOfWords hts t_536 ⟨Nat.le_of_ble_eq_true rfl, Nat.le_of_ble_eq_true rfl⟩) (pv_MO hWd hv0) rfl rfl hl.1 rfl (lv_room (Nat.le_of_ble_eq_true rfl)) d_MO_rootOf_13 ⟨Nat.zero_le _, Nat.zero_le _⟩) hWd (fun H locs hWd => ?_)
  obtain rfl := Option.some.inj h
  exact e_lret hX hr hlk hWd d_MO_rootOf_16
set_option maxHeartbeats 4000000 in
set_option maxRecDepth 100000 in
theorem m_MO_root (l : Launch) {E : En} {K G : Nat → Nat} {L : List Nat} {M : Mm} {sz : Nat} {out : Int64 × Mm} (v0 : Nat) (hv0 : K v0 = 9) (h : f_MO_root G v0 M = some out) : Met l y_MO_root w_MO_root rm_MO_root (va_Pc [.ref v0] (Wp E K G L M sz)) (QL E K G L sz out.1 out.2) 0 0 (AL L sz) := by
  refine Met.ofW (cc := b_MO_root) (maxL := 1) (ret := (some .long)) (by decide) rfl ?_
  intro p e s m av below meth c s₁ B hml hv
  obtain ⟨rfl, hWp⟩ := hv
  have hWd := Wd.start hWp
  obtain ⟨rfl, -⟩ := hWp
  have hX : CallFix p m c b_MO_root 1 s _ w_MO_root "NibbleTrieModel" := ⟨B.exec, B.bytes, hml, findClass_of_methodNamed B.named, atoms_spec (ws := w_MO_root) B.pre⟩
  have hx := hX.1
  have hb := hX.2.1
  have hown := hX.2.2.2.1
  have hts := hX.2.2.2.2
  have hr := B.returns
  have hlk := B.notSynchronized
  have hl := lv_entry ([.ref v0]) (n := 1) (Nat.le_of_ble_eq_true rfl)
  rw [lg_entry_eq]
  generalize (lg_sl ([.ref v0]) ++ List.replicate (1 - (lg_sl ([.ref v0])).length) Slot.unset).toArray = ls at hl ⊢
  have hl : lv_has ls 1 [(0, .ref v0)] := hl
  unfold f_MO_root at h
  refine lv_aload_n hx hb d_MO_root_0 rfl (lv_at hl 0 rfl) ?_
  refine lv_iconst (v := 0) hx hb d_MO_root_1 (by decide) ?_
  obtain ⟨q1, hq1, h⟩ := ob h
  refine kc_v (va_runV (As := [.int 0]) (rest := []) hX (m_MO_build l  v0 0 hv0 hq1) (cb_MO_build hts t_493 ⟨Nat.le_of_ble_eq_true rfl, Nat.le_of_ble_eq_true rfl⟩) (pv_MO hWd hv0) rfl rfl hl.1 rfl (lv_room (Nat.le_of_ble_eq_true rfl)) d_MO_root_2 ⟨Nat.zero_le _, Nat.zero_le _⟩) hWd (fun H locs hWd => ?_)
  refine lv_aload_n hx hb d_MO_root_5 rfl (lv_at hl 0 rfl) ?_
  refine lv_iconst (v := 0) hx hb d_MO_root_6 (by decide) ?_
  obtain ⟨q2, hq2, h⟩ := ob h
  refine kc_l (va_runV (As := [.int 0]) (rest := []) hX (m_MO_rootOf l  v0 0 hv0 hq2) (cb_MO_rootOf hts t_544 ⟨Nat.le_of_ble_eq_true rfl, Nat.le_of_ble_eq_true rfl⟩) (pv_MO hWd hv0) rfl rfl hl.1 rfl (lv_room (Nat.le_of_ble_eq_true rfl)) d_MO_root_7 ⟨Nat.zero_le _, Nat.zero_le _⟩) hWd (fun H locs hWd => ?_)
  obtain rfl := Option.some.inj h
  exact e_lret hX hr hlk hWd d_MO_root_10
set_option maxHeartbeats 4000000 in
set_option maxRecDepth 100000 in
theorem w_MO_count_73 {p : Program} {l : Launch} {e : Env} {s : State} {m : MethodId} {args : Array Value} {below : List Frame} {meth : Method} {c : Code} {E : En} {K G : Nat → Nat} {L : List Nat} (hX : CallFix p m c b_MO_count 8 s args w_MO_count "NibbleTrieModel") (hr : meth.sig.returnType = (some .int)) (hlk : meth.locks = false) {out : Int32 × Mm} (k36 : Nat → Int32 → Int32 → Int32 → Int32 → Mm → Option (Int32 × Mm)) (hk36 : ∀ (v0 : Nat) (v1 : Int32) (v2 : Int32) (v3 : Int32) (v4 : Int32) (M : Mm) (H : Heap) (locs : List Loc) (ls : Array Slot), K v0 = 9 → lv_has ls 8 [(0, .ref v0), (1, .int v1), (2, .int v2), (3, .int v3), (4, .int v4)] → Wd E K G L M s.heap H locs s → k36 v0 v1 v2 v3 v4 M = some out → W p l e rm_MO_count s m args below meth c H locs 0 0 (MQ below (QI E K G L s.heap.size out.1 out.2) args s 0 0 (AL L s.heap.size)) (F0 m 36 ls [])) : ∀ (n : Nat) (v0 : Nat) (v1 : Int32) (v2 : Int32) (v3 : Int32) (v4 : Int32) (v5 : Int32) (M : Mm) (H : Heap) (locs : List Loc) (ls : Array Slot), K v0 = 9 → lv_has ls 8 [(0, .ref v0), (1, .int v1), (2, .int v2), (3, .int v3), (4, .int v4), (5, .int v5)] → Wd E K G L M s.heap H locs s → f_MO_count_73 G k36 n v0 v1 v2 v3 v4 v5 M = some out → W p l e rm_MO_count s m args below meth c H locs 0 0 (MQ below (QI E K G L s.heap.size out.1 out.2) args s 0 0 (AL L s.heap.size)) (F0 m 73 ls []) := by
  have hx := hX.1
  have hb := hX.2.1
  have hown := hX.2.2.2.1
  have hts := hX.2.2.2.2
  intro n
  induction n with
  | zero => intro _ _ _ _ _ _ _ _ _ _ _ _ _ h; rw [f_MO_count_73] at h; cases h
  | succ n ih =>
    intro v0 v1 v2 v3 v4 v5 M H locs ls hv0 hl hWd h
    rw [f_MO_count_73] at h
    refine lv_iload hx hb d_MO_count_73 (lv_at hl 5 rfl) ?_
    refine lv_bipush (v := 16) hx hb d_MO_count_75 (by decide) ?_
    refine lv_icmp_ge (tgt := 131) hx hb d_MO_count_77 (by decide) (fun hc => ?_) (fun hc => ?_)
    · replace h := ifP h hc
      refine lv_iinc (k := 4) (v := (v4 + 1)) (lv' := [(4, .int (v4 + 1)), (0, .ref v0), (1, .int v1), (2, .int v2), (3, .int v3), (5, .int v5)]) hx hb d_MO_count_131 hl rfl (by rfl) (by decide) rfl (fun ls hl => ?_)
      refine lv_goto (tgt := 36) hx hb d_MO_count_134 (by decide) ?_
      exact hk36 v0 v1 v2 v3 (v4 + 1) M _ _ _ hv0 (lv_sub hl [1, 2, 3, 4, 0] rfl) hWd h
    · replace h := ifN h hc
      refine lv_bipush (v := 16) hx hb d_MO_count_80 (by decide) ?_
      refine lv_aload_n hx hb d_MO_count_82 rfl (lv_at hl 0 rfl) ?_
      refine g_MO_branch hX t_417 hWd hv0 d_MO_count_83 ?_
      have q1 := v_MO_branch hWd hv0
      refine lv_iload hx hb d_MO_count_86 (lv_at hl 4 rfl) ?_
      obtain ⟨j2, hj2, h⟩ := ob h
      refine r_iald hX hWd q1 hj2 d_MO_count_88 ?_
      refine lv_imul hx hb d_MO_count_89 ?_
      refine lv_iload hx hb d_MO_count_90 (lv_at hl 5 rfl) ?_
      refine lv_iadd hx hb d_MO_count_92 ?_
      refine lv_topi (fun x3 ex3 => ?_)
      replace h := stA h ex3
      refine lv_istore (lv' := [(6, .int x3), (0, .ref v0), (1, .int v1), (2, .int v2), (3, .int v3), (4, .int v4), (5, .int v5)]) hx hb d_MO_count_93 hl (by decide) rfl (fun ls hl => ?_)
      refine lv_aload_n hx hb d_MO_count_95 rfl (lv_at hl 1 rfl) ?_
      refine lv_iconst (v := 0) hx hb d_MO_count_96 (by decide) ?_
      refine lv_iload hx hb d_MO_count_97 (lv_at hl 0 rfl) ?_
      obtain ⟨q4, hq4, h⟩ := ob h
      refine kc_i (va_runV (As := [.int 0, .int x3]) (rest := []) hX (m_MO_members l  v0 0 x3 hv0 hq4) (cb_MO_members hts t_505 ⟨Nat.le_of_ble_eq_true rfl, Nat.le_of_ble_eq_true rfl⟩) (pv_MO hWd hv0) rfl rfl hl.1 rfl (lv_room (Nat.le_of_ble_eq_true rfl)) d_MO_count_99 ⟨Nat.zero_le _, Nat.zero_le _⟩) hWd (fun H locs hWd => ?_)
      refine lv_istore (lv' := [(7, .int q4), (6, .int x3), (0, .ref v0), (1, .int v1), (2, .int v2), (3, .int v3), (4, .int v4), (5, .int v5)]) hx hb d_MO_count_102 hl (by decide) rfl (fun ls hl => ?_)
      refine lv_iload hx hb d_MO_count_104 (lv_at hl 0 rfl) ?_
      refine lv_iconst (v := 1) hx hb d_MO_count_106 (by decide) ?_
      refine lv_icmp_le (tgt := 125) hx hb d_MO_count_107 (by decide) (fun hc => ?_) (fun hc => ?_)
      · replace h := ifP h hc
        refine lv_iinc (k := 7) (v := (v5 + 1)) (lv' := [(5, .int (v5 + 1)), (7, .int q4), (6, .int x3), (0, .ref v0), (1, .int v1), (2, .int v2), (3, .int v3), (4, .int v4)]) hx hb d_MO_count_125 hl rfl (by rfl) (by decide) rfl (fun ls hl => ?_)
        refine lv_goto (tgt := 73) hx hb d_MO_count_128 (by decide) ?_
        exact ih v0 v1 v2 v3 v4 (v5 + 1) M _ _ _ hv0 (lv_sub hl [3, 4, 5, 6, 7, 0] rfl) hWd h
      · replace h := ifN h hc
        refine lv_aload_n hx hb d_MO_count_110 rfl (lv_at hl 2 rfl) ?_
        refine lv_iconst (v := 0) hx hb d_MO_count_111 (by decide) ?_
        refine lv_iload hx hb d_MO_count_112 (lv_at hl 1 rfl) ?_
        obtain ⟨q5, hq5, h⟩ := ob h
        refine kc_i (va_runV (As := [.int 0, .int x3]) (rest := []) hX (m_MO_common l  v0 0 x3 hv0 hq5) (cb_MO_common hts t_512 ⟨Nat.le_of_ble_eq_true rfl, Nat.le_of_ble_eq_true rfl⟩) (pv_MO hWd hv0) rfl rfl hl.1 rfl (lv_room (Nat.le_of_ble_eq_true rfl)) d_MO_count_114 ⟨Nat.zero_le _, Nat.zero_le _⟩) hWd (fun H locs hWd => ?_)
        refine lv_iload hx hb d_MO_count_117 (lv_at hl 1 rfl) ?_
        refine lv_icmp_eq (tgt := 125) hx hb d_MO_count_119 (by decide) (fun hc => ?_) (fun hc => ?_)
        · replace h := ifP h hc
          refine lv_iinc (k := 7) (v := (v5 + 1)) (lv' := [(5, .int (v5 + 1)), (7, .int q4), (6, .int x3), (0, .ref v0), (1, .int v1), (2, .int v2), (3, .int v3), (4, .int v4)]) hx hb d_MO_count_125 hl rfl (by rfl) (by decide) rfl (fun ls hl => ?_)
          refine lv_goto (tgt := 73) hx hb d_MO_count_128 (by decide) ?_
          exact ih v0 v1 v2 v3 v4 (v5 + 1) M _ _ _ hv0 (lv_sub hl [3, 4, 5, 6, 7, 0] rfl) hWd h
        · replace h := ifN h hc
          refine lv_iinc (k := 5) (v := (v3 + 1)) (lv' := [(3, .int (v3 + 1)), (7, .int q4), (6, .int x3), (0, .ref v0), (1, .int v1), (2, .int v2), (4, .int v4), (5, .int v5)]) hx hb d_MO_count_122 hl rfl (by rfl) (by decide) rfl (fun ls hl => ?_)
          refine lv_iinc (k := 7) (v := (v5 + 1)) (lv' := [(5, .int (v5 + 1)), (3, .int (v3 + 1)), (7, .int q4), (6, .int x3), (0, .ref v0), (1, .int v1), (2, .int v2), (4, .int v4)]) hx hb d_MO_count_125 hl rfl (by rfl) (by decide) rfl (fun ls hl => ?_)
          refine lv_goto (tgt := 73) hx hb d_MO_count_128 (by decide) ?_
          exact ih v0 v1 v2 (v3 + 1) v4 (v5 + 1) M _ _ _ hv0 (lv_sub hl [4, 5, 6, 1, 7, 0] rfl) hWd h
set_option maxHeartbeats 4000000 in
set_option maxRecDepth 100000 in
theorem w_MO_count_36 {p : Program} {l : Launch} {e : Env} {s : State} {m : MethodId} {args : Array Value} {below : List Frame} {meth : Method} {c : Code} {E : En} {K G : Nat → Nat} {L : List Nat} (hX : CallFix p m c b_MO_count 8 s args w_MO_count "NibbleTrieModel") (hr : meth.sig.returnType = (some .int)) (hlk : meth.locks = false) {out : Int32 × Mm} : ∀ (n : Nat) (v0 : Nat) (v1 : Int32) (v2 : Int32) (v3 : Int32) (v4 : Int32) (M : Mm) (H : Heap) (locs : List Loc) (ls : Array Slot), K v0 = 9 → lv_has ls 8 [(0, .ref v0), (1, .int v1), (2, .int v2), (3, .int v3), (4, .int v4)] → Wd E K G L M s.heap H locs s → f_MO_count_36 G n v0 v1 v2 v3 v4 M = some out → W p l e rm_MO_count s m args below meth c H locs 0 0 (MQ below (QI E K G L s.heap.size out.1 out.2) args s 0 0 (AL L s.heap.size)) (F0 m 36 ls []) := by
  have hx := hX.1
  have hb := hX.2.1
  have hown := hX.2.2.2.1
  have hts := hX.2.2.2.2
  intro n
  induction n with
  | zero => intro _ _ _ _ _ _ _ _ _ _ _ _ h; rw [f_MO_count_36] at h; cases h
  | succ n ih =>
    intro v0 v1 v2 v3 v4 M H locs ls hv0 hl hWd h
    rw [f_MO_count_36] at h
    refine lv_iload hx hb d_MO_count_36 (lv_at hl 4 rfl) ?_
    refine lv_aload_n hx hb d_MO_count_38 rfl (lv_at hl 0 rfl) ?_
    refine g_MO_branches hX t_419 hWd hv0 d_MO_count_39 ?_
    have q1 := v_MO_branches hWd hv0
    refine lv_iconst (v := 0) hx hb d_MO_count_42 (by decide) ?_
    obtain ⟨j2, hj2, h⟩ := ob h
    refine r_iald hX hWd q1 hj2 d_MO_count_43 ?_
    refine lv_icmp_ge (tgt := 137) hx hb d_MO_count_44 (by decide) (fun hc => ?_) (fun hc => ?_)
    · replace h := ifP h hc
      refine lv_iload_n hx hb d_MO_count_137 rfl (lv_at hl 1 rfl) ?_
      refine lv_if_ne (tgt := 152) hx hb d_MO_count_138 (by decide) (fun hc => ?_) (fun hc => ?_)
      · replace h := ifN h hc
        refine lv_iload_n hx hb d_MO_count_152 rfl (lv_at hl 1 rfl) ?_
        refine lv_iconst (v := 1) hx hb d_MO_count_153 (by decide) ?_
        refine lv_icmp_ne (tgt := 161) hx hb d_MO_count_154 (by decide) (fun hc => ?_) (fun hc => ?_)
        · replace h := ifN h hc
          refine lv_iload_n hx hb d_MO_count_161 rfl (lv_at hl 1 rfl) ?_
          refine lv_iconst (v := 2) hx hb d_MO_count_162 (by decide) ?_
          refine lv_icmp_ne (tgt := 175) hx hb d_MO_count_163 (by decide) (fun hc => ?_) (fun hc => ?_)
          · replace h := ifN h hc
            refine lv_iconst (v := (-1)) hx hb d_MO_count_175 (by decide) ?_
            obtain rfl := Option.some.inj h
            exact e_iret hX hr hlk hWd d_MO_count_176
          · replace h := ifP h hc
            refine lv_aload_n hx hb d_MO_count_166 rfl (lv_at hl 0 rfl) ?_
            refine g_MO_branches hX t_419 hWd hv0 d_MO_count_167 ?_
            have q3 := v_MO_branches hWd hv0
            refine lv_iconst (v := 0) hx hb d_MO_count_170 (by decide) ?_
            obtain ⟨j4, hj4, h⟩ := ob h
            refine r_iald hX hWd q3 hj4 d_MO_count_171 ?_
            refine lv_goto (tgt := 176) hx hb d_MO_count_172 (by decide) ?_
            obtain rfl := Option.some.inj h
            exact e_iret hX hr hlk hWd d_MO_count_176
        · replace h := ifP h hc
          refine lv_iload_n hx hb d_MO_count_157 rfl (lv_at hl 3 rfl) ?_
          refine lv_goto (tgt := 176) hx hb d_MO_count_158 (by decide) ?_
          obtain rfl := Option.some.inj h
          exact e_iret hX hr hlk hWd d_MO_count_176
      · replace h := ifP h hc
        refine lv_aload_n hx hb d_MO_count_141 rfl (lv_at hl 0 rfl) ?_
        refine g_MO_sizes hX t_414 hWd hv0 d_MO_count_142 ?_
        have q5 := v_MO_sizes hWd hv0
        refine lv_iconst (v := 0) hx hb d_MO_count_145 (by decide) ?_
        obtain ⟨j6, hj6, h⟩ := ob h
        refine r_iald hX hWd q5 hj6 d_MO_count_146 ?_
        refine lv_iload_n hx hb d_MO_count_147 rfl (lv_at hl 2 rfl) ?_
        refine lv_isub hx hb d_MO_count_148 ?_
        refine lv_goto (tgt := 176) hx hb d_MO_count_149 (by decide) ?_
        obtain rfl := Option.some.inj h
        exact e_iret hX hr hlk hWd d_MO_count_176
    · replace h := ifN h hc
      refine lv_aload_n hx hb d_MO_count_47 rfl (lv_at hl 0 rfl) ?_
      refine lv_iconst (v := 0) hx hb d_MO_count_48 (by decide) ?_
      refine lv_aload_n hx hb d_MO_count_49 rfl (lv_at hl 0 rfl) ?_
      refine g_MO_branch hX t_417 hWd hv0 d_MO_count_50 ?_
      have q7 := v_MO_branch hWd hv0
      refine lv_iload hx hb d_MO_count_53 (lv_at hl 4 rfl) ?_
      obtain ⟨j8, hj8, h⟩ := ob h
      refine r_iald hX hWd q7 hj8 d_MO_count_55 ?_
      obtain ⟨q9, hq9, h⟩ := ob h
      refine kc_i (va_runV (As := [.int 0, .int (gi M (gr M v0 5) j8)]) (rest := []) hX (m_MO_find l  v0 0 (gi M (gr M v0 5) j8) hv0 hq9) (cb_MO_find hts t_473 ⟨Nat.le_of_ble_eq_true rfl, Nat.le_of_ble_eq_true rfl⟩) (pv_MO hWd hv0) rfl rfl hl.1 rfl (lv_room (Nat.le_of_ble_eq_true rfl)) d_MO_count_56 ⟨Nat.zero_le _, Nat.zero_le _⟩) hWd (fun H locs hWd => ?_)
      refine lv_if_lt (tgt := 68) hx hb d_MO_count_59 (by decide) (fun hc => ?_) (fun hc => ?_)
      · replace h := ifP h hc
        refine lv_iload_n hx hb d_MO_count_68 rfl (lv_at hl 2 rfl) ?_
        refine lv_istore_n (lv' := [(2, .int v2), (0, .ref v0), (1, .int v1), (3, .int v3), (4, .int v4)]) hx hb d_MO_count_69 rfl hl (by decide) rfl (fun ls hl => ?_)
        refine lv_iconst (v := 0) hx hb d_MO_count_70 (by decide) ?_
        refine lv_istore (lv' := [(5, .int 0), (2, .int v2), (0, .ref v0), (1, .int v1), (3, .int v3), (4, .int v4)]) hx hb d_MO_count_71 hl (by decide) rfl (fun ls hl => ?_)
        exact w_MO_count_73 hX hr hlk _ ih FU v0 v1 v2 v3 v4 0 M _ _ _ hv0 (lv_sub hl [2, 3, 1, 4, 5, 0] rfl) hWd h
      · replace h := ifN h hc
        refine lv_iload_n hx hb d_MO_count_62 rfl (lv_at hl 2 rfl) ?_
        refine lv_iconst (v := 1) hx hb d_MO_count_63 (by decide) ?_
        refine lv_iadd hx hb d_MO_count_64 ?_
        refine lv_goto (tgt := 69) hx hb d_MO_count_65 (by decide) ?_
        refine lv_istore_n (lv' := [(2, .int (v2 + 1)), (0, .ref v0), (1, .int v1), (3, .int v3), (4, .int v4)]) hx hb d_MO_count_69 rfl hl (by decide) rfl (fun ls hl => ?_)
        refine lv_iconst (v := 0) hx hb d_MO_count_70 (by decide) ?_
        refine lv_istore (lv' := [(5, .int 0), (2, .int (v2 + 1)), (0, .ref v0), (1, .int v1), (3, .int v3), (4, .int v4)]) hx hb d_MO_count_71 hl (by decide) rfl (fun ls hl => ?_)
        exact w_MO_count_73 hX hr hlk _ ih FU v0 v1 (v2 + 1) v3 v4 0 M _ _ _ hv0 (lv_sub hl [2, 3, 1, 4, 5, 0] rfl) hWd h
set_option maxHeartbeats 4000000 in
set_option maxRecDepth 100000 in
theorem m_MO_count (l : Launch) {E : En} {K G : Nat → Nat} {L : List Nat} {M : Mm} {sz : Nat} {out : Int32 × Mm} (v0 : Nat) (v1 : Int32) (hv0 : K v0 = 9) (h : f_MO_count G v0 v1 M = some out) : Met l y_MO_count w_MO_count rm_MO_count (va_Pc [.ref v0, .int v1] (Wp E K G L M sz)) (QI E K G L sz out.1 out.2) 0 0 (AL L sz) := by
  refine Met.ofW (cc := b_MO_count) (maxL := 8) (ret := (some .int)) (by decide) rfl ?_
  intro p e s m av below meth c s₁ B hml hv
  obtain ⟨rfl, hWp⟩ := hv
  have hWd := Wd.start hWp
  obtain ⟨rfl, -⟩ := hWp
  have hX : CallFix p m c b_MO_count 8 s _ w_MO_count "NibbleTrieModel" := ⟨B.exec, B.bytes, hml, findClass_of_methodNamed B.named, atoms_spec (ws := w_MO_count) B.pre⟩
  have hx := hX.1
  have hb := hX.2.1
  have hown := hX.2.2.2.1
  have hts := hX.2.2.2.2
  have hr := B.returns
  have hlk := B.notSynchronized
  have hl := lv_entry ([.ref v0, .int v1]) (n := 8) (Nat.le_of_ble_eq_true rfl)
  rw [lg_entry_eq]
  generalize (lg_sl ([.ref v0, .int v1]) ++ List.replicate (8 - (lg_sl ([.ref v0, .int v1])).length) Slot.unset).toArray = ls at hl ⊢
  have hl : lv_has ls 8 [(0, .ref v0), (1, .int v1)] := hl
  unfold f_MO_count at h
  refine lv_aload_n hx hb d_MO_count_0 rfl (lv_at hl 0 rfl) ?_
  refine lv_iconst (v := 0) hx hb d_MO_count_1 (by decide) ?_
  obtain ⟨q1, hq1, h⟩ := ob h
  refine kc_v (va_runV (As := [.int 0]) (rest := []) hX (m_MO_build l  v0 0 hv0 hq1) (cb_MO_build hts t_493 ⟨Nat.le_of_ble_eq_true rfl, Nat.le_of_ble_eq_true rfl⟩) (pv_MO hWd hv0) rfl rfl hl.1 rfl (lv_room (Nat.le_of_ble_eq_true rfl)) d_MO_count_2 ⟨Nat.zero_le _, Nat.zero_le _⟩) hWd (fun H locs hWd => ?_)
  refine lv_iconst (v := 0) hx hb d_MO_count_5 (by decide) ?_
  refine lv_istore_n (lv' := [(2, .int 0), (0, .ref v0), (1, .int v1)]) hx hb d_MO_count_6 rfl hl (by decide) rfl (fun ls hl => ?_)
  refine lv_aload_n hx hb d_MO_count_7 rfl (lv_at hl 1 rfl) ?_
  refine g_MO_sizes hX t_414 hWd hv0 d_MO_count_8 ?_
  have q2 := v_MO_sizes hWd hv0
  refine lv_iconst (v := 0) hx hb d_MO_count_11 (by decide) ?_
  obtain ⟨j3, hj3, h⟩ := ob h
  refine r_iald hX hWd q2 hj3 d_MO_count_12 ?_
  refine lv_iconst (v := 1) hx hb d_MO_count_13 (by decide) ?_
  refine lv_icmp_le (tgt := 31) hx hb d_MO_count_14 (by decide) (fun hc => ?_) (fun hc => ?_)
  · replace h := ifP h hc
    refine lv_iconst (v := 0) hx hb d_MO_count_31 (by decide) ?_
    refine lv_istore_n (lv' := [(3, .int 0), (2, .int 0), (0, .ref v0), (1, .int v1)]) hx hb d_MO_count_32 rfl hl (by decide) rfl (fun ls hl => ?_)
    refine lv_iconst (v := 0) hx hb d_MO_count_33 (by decide) ?_
    refine lv_istore (lv' := [(4, .int 0), (3, .int 0), (2, .int 0), (0, .ref v0), (1, .int v1)]) hx hb d_MO_count_34 hl (by decide) rfl (fun ls hl => ?_)
    exact w_MO_count_36 hX hr hlk FU v0 v1 0 0 0 q1 _ _ _ hv0 (lv_sub hl [3, 4, 2, 1, 0] rfl) hWd h
  · replace h := ifN h hc
    refine lv_aload_n hx hb d_MO_count_17 rfl (lv_at hl 1 rfl) ?_
    refine lv_iconst (v := 0) hx hb d_MO_count_18 (by decide) ?_
    refine lv_iconst (v := 1) hx hb d_MO_count_19 (by decide) ?_
    obtain ⟨q4, hq4, h⟩ := ob h
    refine kc_i (va_runV (As := [.int 0, .int 1]) (rest := []) hX (m_MO_common l  v0 0 1 hv0 hq4) (cb_MO_common hts t_512 ⟨Nat.le_of_ble_eq_true rfl, Nat.le_of_ble_eq_true rfl⟩) (pv_MO hWd hv0) rfl rfl hl.1 rfl (lv_room (Nat.le_of_ble_eq_true rfl)) d_MO_count_20 ⟨Nat.zero_le _, Nat.zero_le _⟩) hWd (fun H locs hWd => ?_)
    refine lv_iconst (v := 1) hx hb d_MO_count_23 (by decide) ?_
    refine lv_icmp_eq (tgt := 31) hx hb d_MO_count_24 (by decide) (fun hc => ?_) (fun hc => ?_)
    · replace h := ifP h hc
      refine lv_iconst (v := 0) hx hb d_MO_count_31 (by decide) ?_
      refine lv_istore_n (lv' := [(3, .int 0), (2, .int 0), (0, .ref v0), (1, .int v1)]) hx hb d_MO_count_32 rfl hl (by decide) rfl (fun ls hl => ?_)
      refine lv_iconst (v := 0) hx hb d_MO_count_33 (by decide) ?_
      refine lv_istore (lv' := [(4, .int 0), (3, .int 0), (2, .int 0), (0, .ref v0), (1, .int v1)]) hx hb d_MO_count_34 hl (by decide) rfl (fun ls hl => ?_)
      exact w_MO_count_36 hX hr hlk FU v0 v1 0 0 0 q1 _ _ _ hv0 (lv_sub hl [3, 4, 2, 1, 0] rfl) hWd h
    · replace h := ifN h hc
      refine lv_iconst (v := 1) hx hb d_MO_count_27 (by decide) ?_
      refine lv_goto (tgt := 32) hx hb d_MO_count_28 (by decide) ?_
      refine lv_istore_n (lv' := [(3, .int 1), (2, .int 0), (0, .ref v0), (1, .int v1)]) hx hb d_MO_count_32 rfl hl (by decide) rfl (fun ls hl => ?_)
      refine lv_iconst (v := 0) hx hb d_MO_count_33 (by decide) ?_
      refine lv_istore (lv' := [(4, .int 0), (3, .int 1), (2, .int 0), (0, .ref v0), (1, .int v1)]) hx hb d_MO_count_34 hl (by decide) rfl (fun ls hl => ?_)
      exact w_MO_count_36 hX hr hlk FU v0 v1 0 1 0 q1 _ _ _ hv0 (lv_sub hl [3, 4, 2, 1, 0] rfl) hWd h
set_option maxHeartbeats 4000000 in
set_option maxRecDepth 100000 in
theorem w_MO_same_98 {p : Program} {l : Launch} {e : Env} {s : State} {m : MethodId} {args : Array Value} {below : List Frame} {meth : Method} {c : Code} {E : En} {K G : Nat → Nat} {L : List Nat} (hX : CallFix p m c b_MO_same 10 s args w_MO_same "NibbleTrieModel") (hr : meth.sig.returnType = (some .boolean)) (hlk : meth.locks = false) {out : Int32} (k53 : Nat → Int32 → Int32 → Int32 → Int32 → Int32 → Mm → Option (Int32)) (hk53 : ∀ (v0 : Nat) (v1 : Int32) (v2 : Int32) (v3 : Int32) (v4 : Int32) (v7 : Int32) (M : Mm) (H : Heap) (locs : List Loc) (ls : Array Slot), K v0 = 9 → lv_has ls 10 [(0, .ref v0), (1, .int v1), (2, .int v2), (3, .int v3), (4, .int v4), (7, .int v7)] → Wd E K G L M s.heap H locs s → k53 v0 v1 v2 v3 v4 v7 M = some out → W p l e rm_MO_same s m args below meth c H locs 0 0 (MQ below (QZ E K G L s.heap.size out M) args s 0 0 (AL L s.heap.size)) (F0 m 53 ls [])) : ∀ (n : Nat) (v0 : Nat) (v1 : Int32) (v2 : Int32) (v3 : Int32) (v4 : Int32) (v7 : Int32) (v8 : Int32) (v9 : Int32) (M : Mm) (H : Heap) (locs : List Loc) (ls : Array Slot), K v0 = 9 → lv_has ls 10 [(0, .ref v0), (1, .int v1), (2, .int v2), (3, .int v3), (4, .int v4), (7, .int v7), (8, .int v8), (9, .int v9)] → Wd E K G L M s.heap H locs s → f_MO_same_98 G k53 n v0 v1 v2 v3 v4 v7 v8 v9 M = some out → W p l e rm_MO_same s m args below meth c H locs 0 0 (MQ below (QZ E K G L s.heap.size out M) args s 0 0 (AL L s.heap.size)) (F0 m 98 ls []) := by
  have hx := hX.1
  have hb := hX.2.1
  have hown := hX.2.2.2.1
  have hts := hX.2.2.2.2
  intro n
  induction n with
  | zero => intro _ _ _ _ _ _ _ _ _ _ _ _ _ _ _ h; rw [f_MO_same_98] at h; cases h
  | succ n ih =>
    intro v0 v1 v2 v3 v4 v7 v8 v9 M H locs ls hv0 hl hWd h
    rw [f_MO_same_98] at h
    refine lv_iload hx hb d_MO_same_98 (lv_at hl 7 rfl) ?_
    refine lv_bipush (v := 16) hx hb d_MO_same_100 (by decide) ?_
    refine lv_iload hx hb d_MO_same_102 (lv_at hl 4 rfl) ?_
    refine lv_imul hx hb d_MO_same_104 ?_
    refine lv_aload_n hx hb d_MO_same_105 rfl (lv_at hl 0 rfl) ?_
    refine g_MO_sizes hX t_414 hWd hv0 d_MO_same_106 ?_
    have q1 := v_MO_sizes hWd hv0
    refine lv_iload hx hb d_MO_same_109 (lv_at hl 4 rfl) ?_
    obtain ⟨j2, hj2, h⟩ := ob h
    refine r_iald hX hWd q1 hj2 d_MO_same_111 ?_
    refine lv_iadd hx hb d_MO_same_112 ?_
    refine lv_icmp_ge (tgt := 205) hx hb d_MO_same_113 (by decide) (fun hc => ?_) (fun hc => ?_)
    · replace h := ifP h hc
      refine lv_iload hx hb d_MO_same_205 (lv_at hl 6 rfl) ?_
      refine lv_if_ne (tgt := 212) hx hb d_MO_same_207 (by decide) (fun hc => ?_) (fun hc => ?_)
      · replace h := ifN h hc
        refine lv_iinc (k := 5) (v := (v7 + 1)) (lv' := [(7, .int (v7 + 1)), (0, .ref v0), (1, .int v1), (2, .int v2), (3, .int v3), (4, .int v4), (8, .int v8), (9, .int v9)]) hx hb d_MO_same_212 hl rfl (by rfl) (by decide) rfl (fun ls hl => ?_)
        refine lv_goto (tgt := 53) hx hb d_MO_same_215 (by decide) ?_
        exact hk53 v0 v1 v2 v3 v4 (v7 + 1) M _ _ _ hv0 (lv_sub hl [1, 2, 3, 4, 5, 0] rfl) hWd h
      · replace h := ifP h hc
        refine lv_iconst (v := 0) hx hb d_MO_same_210 (by decide) ?_
        obtain rfl := Option.some.inj h
        exact e_zret hX hr hlk hWd (Or.inl rfl) d_MO_same_211
    · replace h := ifN h hc
      refine lv_iload hx hb d_MO_same_116 (lv_at hl 6 rfl) ?_
      refine lv_if_ne (tgt := 192) hx hb d_MO_same_118 (by decide) (fun hc => ?_) (fun hc => ?_)
      · replace h := ifN h hc
        refine lv_iconst (v := 1) hx hb d_MO_same_192 (by decide) ?_
        refine lv_goto (tgt := 197) hx hb d_MO_same_193 (by decide) ?_
        refine lv_istore (lv' := [(8, .int 1), (0, .ref v0), (1, .int v1), (2, .int v2), (3, .int v3), (4, .int v4), (7, .int v7), (9, .int v9)]) hx hb d_MO_same_197 hl (by decide) rfl (fun ls hl => ?_)
        refine lv_iinc (k := 7) (v := (v9 + 1)) (lv' := [(9, .int (v9 + 1)), (8, .int 1), (0, .ref v0), (1, .int v1), (2, .int v2), (3, .int v3), (4, .int v4), (7, .int v7)]) hx hb d_MO_same_199 hl rfl (by rfl) (by decide) rfl (fun ls hl => ?_)
        refine lv_goto (tgt := 98) hx hb d_MO_same_202 (by decide) ?_
        exact ih v0 v1 v2 v3 v4 v7 1 (v9 + 1) M _ _ _ hv0 (lv_sub hl [2, 3, 4, 5, 6, 7, 1, 0] rfl) hWd h
      · replace h := ifP h hc
        refine lv_aload_n hx hb d_MO_same_121 rfl (lv_at hl 0 rfl) ?_
        refine g_MO_keys hX t_412 hWd hv0 d_MO_same_122 ?_
        have q3 := v_MO_keys hWd hv0
        refine lv_iload hx hb d_MO_same_125 (lv_at hl 7 rfl) ?_
        obtain ⟨j4, hj4, h⟩ := ob h
        refine r_iald hX hWd q3 hj4 d_MO_same_127 ?_
        refine lv_aload_n hx hb d_MO_same_128 rfl (lv_at hl 0 rfl) ?_
        refine g_MO_branch hX t_417 hWd hv0 d_MO_same_129 ?_
        have q5 := v_MO_branch hWd hv0
        refine lv_iload_n hx hb d_MO_same_132 rfl (lv_at hl 2 rfl) ?_
        obtain ⟨j6, hj6, h⟩ := ob h
        refine r_iald hX hWd q5 hj6 d_MO_same_133 ?_
        refine kp_z (va_runS (As := [.int (gi M (gr M v0 0) j4), .int (gi M (gr M v0 5) j6)]) (rest := []) hX (m_MO_begins l  (gi M (gr M v0 0) j4) (gi M (gr M v0 5) j6) rfl) (cb_MO_begins hts t_509 ⟨Nat.le_of_ble_eq_true rfl, Nat.le_of_ble_eq_true rfl⟩) preEq rfl rfl hl.1 rfl (lv_room (Nat.le_of_ble_eq_true rfl)) d_MO_same_134 ⟨Nat.zero_le _, Nat.zero_le _⟩) (fun z7 => ?_)
        refine lv_if_eq (tgt := 196) hx hb d_MO_same_137 (by decide) (fun hc => ?_) (fun hc => ?_)
        · replace h := ifP h hc
          refine lv_iconst (v := 0) hx hb d_MO_same_196 (by decide) ?_
          refine lv_istore (lv' := [(8, .int 0), (0, .ref v0), (1, .int v1), (2, .int v2), (3, .int v3), (4, .int v4), (7, .int v7), (9, .int v9)]) hx hb d_MO_same_197 hl (by decide) rfl (fun ls hl => ?_)
          refine lv_iinc (k := 7) (v := (v9 + 1)) (lv' := [(9, .int (v9 + 1)), (8, .int 0), (0, .ref v0), (1, .int v1), (2, .int v2), (3, .int v3), (4, .int v4), (7, .int v7)]) hx hb d_MO_same_199 hl rfl (by rfl) (by decide) rfl (fun ls hl => ?_)
          refine lv_goto (tgt := 98) hx hb d_MO_same_202 (by decide) ?_
          exact ih v0 v1 v2 v3 v4 v7 0 (v9 + 1) M _ _ _ hv0 (lv_sub hl [2, 3, 4, 5, 6, 7, 1, 0] rfl) hWd h
        · replace h := ifN h hc
          refine lv_aload_n hx hb d_MO_same_140 rfl (lv_at hl 0 rfl) ?_
          refine g_MO_keys hX t_412 hWd hv0 d_MO_same_141 ?_
          have q8 := v_MO_keys hWd hv0
          refine lv_iload hx hb d_MO_same_144 (lv_at hl 5 rfl) ?_
          obtain ⟨j9, hj9, h⟩ := ob h
          refine r_iald hX hWd q8 hj9 d_MO_same_146 ?_
          refine lv_aload_n hx hb d_MO_same_147 rfl (lv_at hl 0 rfl) ?_
          refine g_MO_branch hX t_417 hWd hv0 d_MO_same_148 ?_
          have q10 := v_MO_branch hWd hv0
          refine lv_iload_n hx hb d_MO_same_151 rfl (lv_at hl 1 rfl) ?_
          obtain ⟨j11, hj11, h⟩ := ob h
          refine r_iald hX hWd q10 hj11 d_MO_same_152 ?_
          refine kp_i (va_runS (As := [.int (gi M (gr M v0 0) j9), .int (gi M (gr M v0 5) j11)]) (rest := []) hX (m_MO_behind l  (gi M (gr M v0 0) j9) (gi M (gr M v0 5) j11) rfl) (cb_MO_behind hts t_533 ⟨Nat.le_of_ble_eq_true rfl, Nat.le_of_ble_eq_true rfl⟩) preEq rfl rfl hl.1 rfl (lv_room (Nat.le_of_ble_eq_true rfl)) d_MO_same_153 ⟨Nat.zero_le _, Nat.zero_le _⟩) ?_
          refine lv_aload_n hx hb d_MO_same_156 rfl (lv_at hl 0 rfl) ?_
          refine g_MO_keys hX t_412 hWd hv0 d_MO_same_157 ?_
          have q12 := v_MO_keys hWd hv0
          refine lv_iload hx hb d_MO_same_160 (lv_at hl 7 rfl) ?_
          obtain ⟨j13, hj13, h⟩ := ob h
          refine r_iald hX hWd q12 hj13 d_MO_same_162 ?_
          refine lv_aload_n hx hb d_MO_same_163 rfl (lv_at hl 0 rfl) ?_
          refine g_MO_branch hX t_417 hWd hv0 d_MO_same_164 ?_
          have q14 := v_MO_branch hWd hv0
          refine lv_iload_n hx hb d_MO_same_167 rfl (lv_at hl 2 rfl) ?_
          obtain ⟨j15, hj15, h⟩ := ob h
          refine r_iald hX hWd q14 hj15 d_MO_same_168 ?_
          refine kp_i (va_runS (As := [.int (gi M (gr M v0 0) j13), .int (gi M (gr M v0 5) j15)]) (rest := [.int (f_MO_behind (gi M (gr M v0 0) j9) (gi M (gr M v0 5) j11))]) hX (m_MO_behind l  (gi M (gr M v0 0) j13) (gi M (gr M v0 5) j15) rfl) (cb_MO_behind hts t_533 ⟨Nat.le_of_ble_eq_true rfl, Nat.le_of_ble_eq_true rfl⟩) preEq rfl rfl hl.1 rfl (lv_room (Nat.le_of_ble_eq_true rfl)) d_MO_same_169 ⟨Nat.zero_le _, Nat.zero_le _⟩) ?_
          refine lv_icmp_ne (tgt := 196) hx hb d_MO_same_172 (by decide) (fun hc => ?_) (fun hc => ?_)
          · replace h := ifN h hc
            refine lv_iconst (v := 0) hx hb d_MO_same_196 (by decide) ?_
            refine lv_istore (lv' := [(8, .int 0), (0, .ref v0), (1, .int v1), (2, .int v2), (3, .int v3), (4, .int v4), (7, .int v7), (9, .int v9)]) hx hb d_MO_same_197 hl (by decide) rfl (fun ls hl => ?_)
            refine lv_iinc (k := 7) (v := (v9 + 1)) (lv' := [(9, .int (v9 + 1)), (8, .int 0), (0, .ref v0), (1, .int v1), (2, .int v2), (3, .int v3), (4, .int v4), (7, .int v7)]) hx hb d_MO_same_199 hl rfl (by rfl) (by decide) rfl (fun ls hl => ?_)
            refine lv_goto (tgt := 98) hx hb d_MO_same_202 (by decide) ?_
            exact ih v0 v1 v2 v3 v4 v7 0 (v9 + 1) M _ _ _ hv0 (lv_sub hl [2, 3, 4, 5, 6, 7, 1, 0] rfl) hWd h
          · replace h := ifP h hc
            refine lv_aload_n hx hb d_MO_same_175 rfl (lv_at hl 0 rfl) ?_
            refine g_MO_values hX t_413 hWd hv0 d_MO_same_176 ?_
            have q16 := v_MO_values hWd hv0
            refine lv_iload hx hb d_MO_same_179 (lv_at hl 5 rfl) ?_
            obtain ⟨j17, hj17, h⟩ := ob h
            refine r_iald hX hWd q16 hj17 d_MO_same_181 ?_
            refine lv_aload_n hx hb d_MO_same_182 rfl (lv_at hl 0 rfl) ?_
            refine g_MO_values hX t_413 hWd hv0 d_MO_same_183 ?_
            have q18 := v_MO_values hWd hv0
            refine lv_iload hx hb d_MO_same_186 (lv_at hl 7 rfl) ?_
            obtain ⟨j19, hj19, h⟩ := ob h
            refine r_iald hX hWd q18 hj19 d_MO_same_188 ?_
            refine lv_icmp_ne (tgt := 196) hx hb d_MO_same_189 (by decide) (fun hc => ?_) (fun hc => ?_)
            · replace h := ifN h hc
              refine lv_iconst (v := 0) hx hb d_MO_same_196 (by decide) ?_
              refine lv_istore (lv' := [(8, .int 0), (0, .ref v0), (1, .int v1), (2, .int v2), (3, .int v3), (4, .int v4), (7, .int v7), (9, .int v9)]) hx hb d_MO_same_197 hl (by decide) rfl (fun ls hl => ?_)
              refine lv_iinc (k := 7) (v := (v9 + 1)) (lv' := [(9, .int (v9 + 1)), (8, .int 0), (0, .ref v0), (1, .int v1), (2, .int v2), (3, .int v3), (4, .int v4), (7, .int v7)]) hx hb d_MO_same_199 hl rfl (by rfl) (by decide) rfl (fun ls hl => ?_)
              refine lv_goto (tgt := 98) hx hb d_MO_same_202 (by decide) ?_
              exact ih v0 v1 v2 v3 v4 v7 0 (v9 + 1) M _ _ _ hv0 (lv_sub hl [2, 3, 4, 5, 6, 7, 1, 0] rfl) hWd h
            · replace h := ifP h hc
              refine lv_iconst (v := 1) hx hb d_MO_same_192 (by decide) ?_
              refine lv_goto (tgt := 197) hx hb d_MO_same_193 (by decide) ?_
              refine lv_istore (lv' := [(8, .int 1), (0, .ref v0), (1, .int v1), (2, .int v2), (3, .int v3), (4, .int v4), (7, .int v7), (9, .int v9)]) hx hb d_MO_same_197 hl (by decide) rfl (fun ls hl => ?_)
              refine lv_iinc (k := 7) (v := (v9 + 1)) (lv' := [(9, .int (v9 + 1)), (8, .int 1), (0, .ref v0), (1, .int v1), (2, .int v2), (3, .int v3), (4, .int v4), (7, .int v7)]) hx hb d_MO_same_199 hl rfl (by rfl) (by decide) rfl (fun ls hl => ?_)
              refine lv_goto (tgt := 98) hx hb d_MO_same_202 (by decide) ?_
              exact ih v0 v1 v2 v3 v4 v7 1 (v9 + 1) M _ _ _ hv0 (lv_sub hl [2, 3, 4, 5, 6, 7, 1, 0] rfl) hWd h
set_option maxHeartbeats 4000000 in
set_option maxRecDepth 100000 in
theorem w_MO_same_53 {p : Program} {l : Launch} {e : Env} {s : State} {m : MethodId} {args : Array Value} {below : List Frame} {meth : Method} {c : Code} {E : En} {K G : Nat → Nat} {L : List Nat} (hX : CallFix p m c b_MO_same 10 s args w_MO_same "NibbleTrieModel") (hr : meth.sig.returnType = (some .boolean)) (hlk : meth.locks = false) {out : Int32} : ∀ (n : Nat) (v0 : Nat) (v1 : Int32) (v2 : Int32) (v3 : Int32) (v4 : Int32) (v7 : Int32) (M : Mm) (H : Heap) (locs : List Loc) (ls : Array Slot), K v0 = 9 → lv_has ls 10 [(0, .ref v0), (1, .int v1), (2, .int v2), (3, .int v3), (4, .int v4), (7, .int v7)] → Wd E K G L M s.heap H locs s → f_MO_same_53 G n v0 v1 v2 v3 v4 v7 M = some out → W p l e rm_MO_same s m args below meth c H locs 0 0 (MQ below (QZ E K G L s.heap.size out M) args s 0 0 (AL L s.heap.size)) (F0 m 53 ls []) := by
  have hx := hX.1
  have hb := hX.2.1
  have hown := hX.2.2.2.1
  have hts := hX.2.2.2.2
  intro n
  induction n with
  | zero => intro _ _ _ _ _ _ _ _ _ _ _ _ _ h; rw [f_MO_same_53] at h; cases h
  | succ n ih =>
    intro v0 v1 v2 v3 v4 v7 M H locs ls hv0 hl hWd h
    rw [f_MO_same_53] at h
    refine lv_iload hx hb d_MO_same_53 (lv_at hl 5 rfl) ?_
    refine lv_bipush (v := 16) hx hb d_MO_same_55 (by decide) ?_
    refine lv_iload_n hx hb d_MO_same_57 rfl (lv_at hl 3 rfl) ?_
    refine lv_imul hx hb d_MO_same_58 ?_
    refine lv_aload_n hx hb d_MO_same_59 rfl (lv_at hl 0 rfl) ?_
    refine g_MO_sizes hX t_414 hWd hv0 d_MO_same_60 ?_
    have q1 := v_MO_sizes hWd hv0
    refine lv_iload_n hx hb d_MO_same_63 rfl (lv_at hl 3 rfl) ?_
    obtain ⟨j2, hj2, h⟩ := ob h
    refine r_iald hX hWd q1 hj2 d_MO_same_64 ?_
    refine lv_iadd hx hb d_MO_same_65 ?_
    refine lv_icmp_ge (tgt := 218) hx hb d_MO_same_66 (by decide) (fun hc => ?_) (fun hc => ?_)
    · replace h := ifP h hc
      refine lv_iconst (v := 1) hx hb d_MO_same_218 (by decide) ?_
      obtain rfl := Option.some.inj h
      exact e_zret hX hr hlk hWd (Or.inr rfl) d_MO_same_219
    · replace h := ifN h hc
      refine lv_aload_n hx hb d_MO_same_69 rfl (lv_at hl 0 rfl) ?_
      refine g_MO_keys hX t_412 hWd hv0 d_MO_same_70 ?_
      have q3 := v_MO_keys hWd hv0
      refine lv_iload hx hb d_MO_same_73 (lv_at hl 5 rfl) ?_
      obtain ⟨j4, hj4, h⟩ := ob h
      refine r_iald hX hWd q3 hj4 d_MO_same_75 ?_
      refine lv_aload_n hx hb d_MO_same_76 rfl (lv_at hl 0 rfl) ?_
      refine g_MO_branch hX t_417 hWd hv0 d_MO_same_77 ?_
      have q5 := v_MO_branch hWd hv0
      refine lv_iload_n hx hb d_MO_same_80 rfl (lv_at hl 1 rfl) ?_
      obtain ⟨j6, hj6, h⟩ := ob h
      refine r_iald hX hWd q5 hj6 d_MO_same_81 ?_
      refine kp_z (va_runS (As := [.int (gi M (gr M v0 0) j4), .int (gi M (gr M v0 5) j6)]) (rest := []) hX (m_MO_begins l  (gi M (gr M v0 0) j4) (gi M (gr M v0 5) j6) rfl) (cb_MO_begins hts t_509 ⟨Nat.le_of_ble_eq_true rfl, Nat.le_of_ble_eq_true rfl⟩) preEq rfl rfl hl.1 rfl (lv_room (Nat.le_of_ble_eq_true rfl)) d_MO_same_82 ⟨Nat.zero_le _, Nat.zero_le _⟩) (fun z7 => ?_)
      refine lv_if_eq (tgt := 212) hx hb d_MO_same_85 (by decide) (fun hc => ?_) (fun hc => ?_)
      · replace h := ifP h hc
        refine lv_iinc (k := 5) (v := (v7 + 1)) (lv' := [(7, .int (v7 + 1)), (0, .ref v0), (1, .int v1), (2, .int v2), (3, .int v3), (4, .int v4)]) hx hb d_MO_same_212 hl rfl (by rfl) (by decide) rfl (fun ls hl => ?_)
        refine lv_goto (tgt := 53) hx hb d_MO_same_215 (by decide) ?_
        exact ih v0 v1 v2 v3 v4 (v7 + 1) M _ _ _ hv0 (lv_sub hl [1, 2, 3, 4, 5, 0] rfl) hWd h
      · replace h := ifN h hc
        refine lv_iconst (v := 0) hx hb d_MO_same_88 (by decide) ?_
        refine lv_istore (lv' := [(8, .int 0), (0, .ref v0), (1, .int v1), (2, .int v2), (3, .int v3), (4, .int v4), (7, .int v7)]) hx hb d_MO_same_89 hl (by decide) rfl (fun ls hl => ?_)
        refine lv_bipush (v := 16) hx hb d_MO_same_91 (by decide) ?_
        refine lv_iload hx hb d_MO_same_93 (lv_at hl 5 rfl) ?_
        refine lv_imul hx hb d_MO_same_95 ?_
        refine lv_istore (lv' := [(9, .int (16 * v4)), (8, .int 0), (0, .ref v0), (1, .int v1), (2, .int v2), (3, .int v3), (4, .int v4), (7, .int v7)]) hx hb d_MO_same_96 hl (by decide) rfl (fun ls hl => ?_)
        exact w_MO_same_98 hX hr hlk _ ih FU v0 v1 v2 v3 v4 v7 0 (16 * v4) M _ _ _ hv0 (lv_sub hl [2, 3, 4, 5, 6, 7, 1, 0] rfl) hWd h
set_option maxHeartbeats 4000000 in
set_option maxRecDepth 100000 in
theorem m_MO_same (l : Launch) {E : En} {K G : Nat → Nat} {L : List Nat} {M : Mm} {sz : Nat} {out : Int32} (v0 : Nat) (v1 : Int32) (v2 : Int32) (hv0 : K v0 = 9) (h : f_MO_same G v0 v1 v2 M = some out) : Met l y_MO_same w_MO_same rm_MO_same (va_Pc [.ref v0, .int v1, .int v2] (Wp E K G L M sz)) (QZ E K G L sz out M) 0 0 (AL L sz) := by
  refine Met.ofW (cc := b_MO_same) (maxL := 10) (ret := (some .boolean)) (by decide) rfl ?_
  intro p e s m av below meth c s₁ B hml hv
  obtain ⟨rfl, hWp⟩ := hv
  have hWd := Wd.start hWp
  obtain ⟨rfl, -⟩ := hWp
  have hX : CallFix p m c b_MO_same 10 s _ w_MO_same "NibbleTrieModel" := ⟨B.exec, B.bytes, hml, findClass_of_methodNamed B.named, atoms_spec (ws := w_MO_same) B.pre⟩
  have hx := hX.1
  have hb := hX.2.1
  have hown := hX.2.2.2.1
  have hts := hX.2.2.2.2
  have hr := B.returns
  have hlk := B.notSynchronized
  have hl := lv_entry ([.ref v0, .int v1, .int v2]) (n := 10) (Nat.le_of_ble_eq_true rfl)
  rw [lg_entry_eq]
  generalize (lg_sl ([.ref v0, .int v1, .int v2]) ++ List.replicate (10 - (lg_sl ([.ref v0, .int v1, .int v2])).length) Slot.unset).toArray = ls at hl ⊢
  have hl : lv_has ls 10 [(0, .ref v0), (1, .int v1), (2, .int v2)] := hl
  unfold f_MO_same at h
  refine lv_iload_n hx hb d_MO_same_0 rfl (lv_at hl 1 rfl) ?_
  refine lv_bipush (v := 16) hx hb d_MO_same_1 (by decide) ?_
  refine lv_idiv hx hb d_MO_same_3 (by decide) ?_
  refine lv_istore_n (lv' := [(3, .int (v1 / 16)), (0, .ref v0), (1, .int v1), (2, .int v2)]) hx hb d_MO_same_4 rfl hl (by decide) rfl (fun ls hl => ?_)
  refine lv_iload_n hx hb d_MO_same_5 rfl (lv_at hl 3 rfl) ?_
  refine lv_bipush (v := 16) hx hb d_MO_same_6 (by decide) ?_
  refine lv_idiv hx hb d_MO_same_8 (by decide) ?_
  refine lv_istore (lv' := [(4, .int (v2 / 16)), (3, .int (v1 / 16)), (0, .ref v0), (1, .int v1), (2, .int v2)]) hx hb d_MO_same_9 hl (by decide) rfl (fun ls hl => ?_)
  refine lv_aload_n hx hb d_MO_same_11 rfl (lv_at hl 2 rfl) ?_
  refine lv_iload_n hx hb d_MO_same_12 rfl (lv_at hl 1 rfl) ?_
  refine lv_aload_n hx hb d_MO_same_13 rfl (lv_at hl 2 rfl) ?_
  refine g_MO_branch hX t_417 hWd hv0 d_MO_same_14 ?_
  have q1 := v_MO_branch hWd hv0
  refine lv_iload_n hx hb d_MO_same_17 rfl (lv_at hl 3 rfl) ?_
  obtain ⟨j2, hj2, h⟩ := ob h
  refine r_iald hX hWd q1 hj2 d_MO_same_18 ?_
  obtain ⟨q3, hq3, h⟩ := ob h
  refine kc_i (va_runV (As := [.int (v1 / 16), .int (gi M (gr M v0 5) j2)]) (rest := []) hX (m_MO_members l  v0 (v1 / 16) (gi M (gr M v0 5) j2) hv0 hq3) (cb_MO_members hts t_505 ⟨Nat.le_of_ble_eq_true rfl, Nat.le_of_ble_eq_true rfl⟩) (pv_MO hWd hv0) rfl rfl hl.1 rfl (lv_room (Nat.le_of_ble_eq_true rfl)) d_MO_same_19 ⟨Nat.zero_le _, Nat.zero_le _⟩) hWd (fun H locs hWd => ?_)
  refine lv_istore (lv' := [(5, .int q3), (4, .int (v2 / 16)), (3, .int (v1 / 16)), (0, .ref v0), (1, .int v1), (2, .int v2)]) hx hb d_MO_same_22 hl (by decide) rfl (fun ls hl => ?_)
  refine lv_aload_n hx hb d_MO_same_24 rfl (lv_at hl 3 rfl) ?_
  refine lv_iload hx hb d_MO_same_25 (lv_at hl 1 rfl) ?_
  refine lv_aload_n hx hb d_MO_same_27 rfl (lv_at hl 3 rfl) ?_
  refine g_MO_branch hX t_417 hWd hv0 d_MO_same_28 ?_
  have q4 := v_MO_branch hWd hv0
  refine lv_iload_n hx hb d_MO_same_31 rfl (lv_at hl 5 rfl) ?_
  obtain ⟨j5, hj5, h⟩ := ob h
  refine r_iald hX hWd q4 hj5 d_MO_same_32 ?_
  obtain ⟨q6, hq6, h⟩ := ob h
  refine kc_i (va_runV (As := [.int (v2 / 16), .int (gi M (gr M v0 5) j5)]) (rest := []) hX (m_MO_members l  v0 (v2 / 16) (gi M (gr M v0 5) j5) hv0 hq6) (cb_MO_members hts t_505 ⟨Nat.le_of_ble_eq_true rfl, Nat.le_of_ble_eq_true rfl⟩) (pv_MO hWd hv0) rfl rfl hl.1 rfl (lv_room (Nat.le_of_ble_eq_true rfl)) d_MO_same_33 ⟨Nat.zero_le _, Nat.zero_le _⟩) hWd (fun H locs hWd => ?_)
  refine lv_istore (lv' := [(6, .int q6), (5, .int q3), (4, .int (v2 / 16)), (3, .int (v1 / 16)), (0, .ref v0), (1, .int v1), (2, .int v2)]) hx hb d_MO_same_36 hl (by decide) rfl (fun ls hl => ?_)
  refine lv_iload hx hb d_MO_same_38 (lv_at hl 1 rfl) ?_
  refine lv_iload hx hb d_MO_same_40 (lv_at hl 0 rfl) ?_
  refine lv_icmp_eq (tgt := 47) hx hb d_MO_same_42 (by decide) (fun hc => ?_) (fun hc => ?_)
  · replace h := ifP h hc
    refine lv_bipush (v := 16) hx hb d_MO_same_47 (by decide) ?_
    refine lv_iload_n hx hb d_MO_same_49 rfl (lv_at hl 3 rfl) ?_
    refine lv_imul hx hb d_MO_same_50 ?_
    refine lv_istore (lv' := [(7, .int (16 * (v1 / 16))), (6, .int q6), (5, .int q3), (4, .int (v2 / 16)), (3, .int (v1 / 16)), (0, .ref v0), (1, .int v1), (2, .int v2)]) hx hb d_MO_same_51 hl (by decide) rfl (fun ls hl => ?_)
    exact w_MO_same_53 hX hr hlk FU v0 v1 v2 (v1 / 16) (v2 / 16) (16 * (v1 / 16)) M _ _ _ hv0 (lv_sub hl [5, 6, 7, 4, 3, 0] rfl) hWd h
  · replace h := ifN h hc
    refine lv_iconst (v := 0) hx hb d_MO_same_45 (by decide) ?_
    obtain rfl := Option.some.inj h
    exact e_zret hX hr hlk hWd (Or.inl rfl) d_MO_same_46
set_option maxHeartbeats 4000000 in
set_option maxRecDepth 100000 in
theorem w_MO_stands_32 {p : Program} {l : Launch} {e : Env} {s : State} {m : MethodId} {args : Array Value} {below : List Frame} {meth : Method} {c : Code} {E : En} {K G : Nat → Nat} {L : List Nat} (hX : CallFix p m c b_MO_stands 3 s args w_MO_stands "NibbleTrieModel") (hr : meth.sig.returnType = (some .boolean)) (hlk : meth.locks = false) {out : Int32} : ∀ (n : Nat) (v0 : Nat) (v1 : Int32) (v2 : Int32) (M : Mm) (H : Heap) (locs : List Loc) (ls : Array Slot), K v0 = 9 → lv_has ls 3 [(0, .ref v0), (1, .int v1), (2, .int v2)] → Wd E K G L M s.heap H locs s → f_MO_stands_32 G n v0 v1 v2 M = some out → W p l e rm_MO_stands s m args below meth c H locs 0 0 (MQ below (QZ E K G L s.heap.size out M) args s 0 0 (AL L s.heap.size)) (F0 m 32 ls []) := by
  have hx := hX.1
  have hb := hX.2.1
  have hown := hX.2.2.2.1
  have hts := hX.2.2.2.2
  intro n
  induction n with
  | zero => intro _ _ _ _ _ _ _ _ _ _ h; rw [f_MO_stands_32] at h; cases h
  | succ n ih =>
    intro v0 v1 v2 M H locs ls hv0 hl hWd h
    rw [f_MO_stands_32] at h
    refine lv_iload_n hx hb d_MO_stands_32 rfl (lv_at hl 2 rfl) ?_
    refine lv_iload_n hx hb d_MO_stands_33 rfl (lv_at hl 1 rfl) ?_
    refine lv_icmp_ge (tgt := 70) hx hb d_MO_stands_34 (by decide) (fun hc => ?_) (fun hc => ?_)
    · replace h := ifP h hc
      refine lv_iconst (v := 1) hx hb d_MO_stands_70 (by decide) ?_
      obtain rfl := Option.some.inj h
      exact e_zret hX hr hlk hWd (Or.inr rfl) d_MO_stands_71
    · replace h := ifN h hc
      refine lv_iload_n hx hb d_MO_stands_37 rfl (lv_at hl 2 rfl) ?_
      refine lv_bipush (v := 16) hx hb d_MO_stands_38 (by decide) ?_
      refine lv_irem hx hb d_MO_stands_40 (by decide) ?_
      refine lv_aload_n hx hb d_MO_stands_41 rfl (lv_at hl 0 rfl) ?_
      refine g_MO_branches hX t_419 hWd hv0 d_MO_stands_42 ?_
      have q1 := v_MO_branches hWd hv0
      refine lv_iload_n hx hb d_MO_stands_45 rfl (lv_at hl 2 rfl) ?_
      refine lv_bipush (v := 16) hx hb d_MO_stands_46 (by decide) ?_
      refine lv_idiv hx hb d_MO_stands_48 (by decide) ?_
      obtain ⟨j2, hj2, h⟩ := ob h
      refine r_iald hX hWd q1 hj2 d_MO_stands_49 ?_
      refine lv_icmp_ge (tgt := 64) hx hb d_MO_stands_50 (by decide) (fun hc => ?_) (fun hc => ?_)
      · replace h := ifP h hc
        refine lv_iinc (k := 2) (v := (v2 + 1)) (lv' := [(2, .int (v2 + 1)), (0, .ref v0), (1, .int v1)]) hx hb d_MO_stands_64 hl rfl (by rfl) (by decide) rfl (fun ls hl => ?_)
        refine lv_goto (tgt := 32) hx hb d_MO_stands_67 (by decide) ?_
        exact ih v0 v1 (v2 + 1) M _ _ _ hv0 (lv_sub hl [1, 2, 0] rfl) hWd h
      · replace h := ifN h hc
        refine lv_aload_n hx hb d_MO_stands_53 rfl (lv_at hl 0 rfl) ?_
        refine lv_iload_n hx hb d_MO_stands_54 rfl (lv_at hl 1 rfl) ?_
        refine lv_iload_n hx hb d_MO_stands_55 rfl (lv_at hl 2 rfl) ?_
        obtain ⟨q3, hq3, h⟩ := ob h
        refine kc_z (va_runV (As := [.int v1, .int v2]) (rest := []) hX (m_MO_same l  v0 v1 v2 hv0 hq3) (cb_MO_same hts t_560 ⟨Nat.le_of_ble_eq_true rfl, Nat.le_of_ble_eq_true rfl⟩) (pv_MO hWd hv0) rfl rfl hl.1 rfl (lv_room (Nat.le_of_ble_eq_true rfl)) d_MO_stands_56 ⟨Nat.zero_le _, Nat.zero_le _⟩) hWd (fun z4 H locs hWd => ?_)
        refine lv_if_eq (tgt := 64) hx hb d_MO_stands_59 (by decide) (fun hc => ?_) (fun hc => ?_)
        · replace h := ifP h hc
          refine lv_iinc (k := 2) (v := (v2 + 1)) (lv' := [(2, .int (v2 + 1)), (0, .ref v0), (1, .int v1)]) hx hb d_MO_stands_64 hl rfl (by rfl) (by decide) rfl (fun ls hl => ?_)
          refine lv_goto (tgt := 32) hx hb d_MO_stands_67 (by decide) ?_
          exact ih v0 v1 (v2 + 1) M _ _ _ hv0 (lv_sub hl [1, 2, 0] rfl) hWd h
        · replace h := ifN h hc
          refine lv_iconst (v := 0) hx hb d_MO_stands_62 (by decide) ?_
          obtain rfl := Option.some.inj h
          exact e_zret hX hr hlk hWd (Or.inl rfl) d_MO_stands_63
set_option maxHeartbeats 4000000 in
set_option maxRecDepth 100000 in
theorem m_MO_stands (l : Launch) {E : En} {K G : Nat → Nat} {L : List Nat} {M : Mm} {sz : Nat} {out : Int32} (v0 : Nat) (v1 : Int32) (hv0 : K v0 = 9) (h : f_MO_stands G v0 v1 M = some out) : Met l y_MO_stands w_MO_stands rm_MO_stands (va_Pc [.ref v0, .int v1] (Wp E K G L M sz)) (QZ E K G L sz out M) 0 0 (AL L sz) := by
  refine Met.ofW (cc := b_MO_stands) (maxL := 3) (ret := (some .boolean)) (by decide) rfl ?_
  intro p e s m av below meth c s₁ B hml hv
  obtain ⟨rfl, hWp⟩ := hv
  have hWd := Wd.start hWp
  obtain ⟨rfl, -⟩ := hWp
  have hX : CallFix p m c b_MO_stands 3 s _ w_MO_stands "NibbleTrieModel" := ⟨B.exec, B.bytes, hml, findClass_of_methodNamed B.named, atoms_spec (ws := w_MO_stands) B.pre⟩
  have hx := hX.1
  have hb := hX.2.1
  have hown := hX.2.2.2.1
  have hts := hX.2.2.2.2
  have hr := B.returns
  have hlk := B.notSynchronized
  have hl := lv_entry ([.ref v0, .int v1]) (n := 3) (Nat.le_of_ble_eq_true rfl)
  rw [lg_entry_eq]
  generalize (lg_sl ([.ref v0, .int v1]) ++ List.replicate (3 - (lg_sl ([.ref v0, .int v1])).length) Slot.unset).toArray = ls at hl ⊢
  have hl : lv_has ls 3 [(0, .ref v0), (1, .int v1)] := hl
  unfold f_MO_stands at h
  refine lv_iload_n hx hb d_MO_stands_0 rfl (lv_at hl 1 rfl) ?_
  refine lv_bipush (v := 16) hx hb d_MO_stands_1 (by decide) ?_
  refine lv_idiv hx hb d_MO_stands_3 (by decide) ?_
  refine lv_aload_n hx hb d_MO_stands_4 rfl (lv_at hl 0 rfl) ?_
  refine g_MO_kept hX t_415 hWd hv0 d_MO_stands_5 ?_
  refine lv_icmp_gt (tgt := 27) hx hb d_MO_stands_8 (by decide) (fun hc => ?_) (fun hc => ?_)
  · replace h := ifP h hc
    refine lv_iconst (v := 0) hx hb d_MO_stands_27 (by decide) ?_
    obtain rfl := Option.some.inj h
    exact e_zret hX hr hlk hWd (Or.inl rfl) d_MO_stands_28
  · replace h := ifN h hc
    refine lv_iload_n hx hb d_MO_stands_11 rfl (lv_at hl 1 rfl) ?_
    refine lv_bipush (v := 16) hx hb d_MO_stands_12 (by decide) ?_
    refine lv_irem hx hb d_MO_stands_14 (by decide) ?_
    refine lv_aload_n hx hb d_MO_stands_15 rfl (lv_at hl 0 rfl) ?_
    refine g_MO_branches hX t_419 hWd hv0 d_MO_stands_16 ?_
    have q1 := v_MO_branches hWd hv0
    refine lv_iload_n hx hb d_MO_stands_19 rfl (lv_at hl 1 rfl) ?_
    refine lv_bipush (v := 16) hx hb d_MO_stands_20 (by decide) ?_
    refine lv_idiv hx hb d_MO_stands_22 (by decide) ?_
    obtain ⟨j2, hj2, h⟩ := ob h
    refine r_iald hX hWd q1 hj2 d_MO_stands_23 ?_
    refine lv_icmp_lt (tgt := 29) hx hb d_MO_stands_24 (by decide) (fun hc => ?_) (fun hc => ?_)
    · replace h := ifP h hc
      refine lv_bipush (v := 16) hx hb d_MO_stands_29 (by decide) ?_
      refine lv_istore_n (lv' := [(2, .int 16), (0, .ref v0), (1, .int v1)]) hx hb d_MO_stands_31 rfl hl (by decide) rfl (fun ls hl => ?_)
      exact w_MO_stands_32 hX hr hlk FU v0 v1 16 M _ _ _ hv0 (lv_sub hl [1, 2, 0] rfl) hWd h
    · replace h := ifN h hc
      refine lv_iconst (v := 0) hx hb d_MO_stands_27 (by decide) ?_
      obtain rfl := Option.some.inj h
      exact e_zret hX hr hlk hWd (Or.inl rfl) d_MO_stands_28
set_option maxHeartbeats 4000000 in
set_option maxRecDepth 100000 in
theorem w_MO_has_2 {p : Program} {l : Launch} {e : Env} {s : State} {m : MethodId} {args : Array Value} {below : List Frame} {meth : Method} {c : Code} {E : En} {K G : Nat → Nat} {L : List Nat} (hX : CallFix p m c b_MO_has 4 s args w_MO_has "NibbleTrieModel") (hr : meth.sig.returnType = (some .boolean)) (hlk : meth.locks = false) {out : Int32} : ∀ (n : Nat) (v0 : Nat) (v1 : Int32) (v2 : Int32) (M : Mm) (H : Heap) (locs : List Loc) (ls : Array Slot), K v0 = 9 → lv_has ls 4 [(0, .ref v0), (1, .int v1), (2, .int v2)] → Wd E K G L M s.heap H locs s → f_MO_has_2 G n v0 v1 v2 M = some out → W p l e rm_MO_has s m args below meth c H locs 0 0 (MQ below (QZ E K G L s.heap.size out M) args s 0 0 (AL L s.heap.size)) (F0 m 2 ls []) := by
  have hx := hX.1
  have hb := hX.2.1
  have hown := hX.2.2.2.1
  have hts := hX.2.2.2.2
  intro n
  induction n with
  | zero => intro _ _ _ _ _ _ _ _ _ _ h; rw [f_MO_has_2] at h; cases h
  | succ n ih =>
    intro v0 v1 v2 M H locs ls hv0 hl hWd h
    rw [f_MO_has_2] at h
    refine lv_iload_n hx hb d_MO_has_2 rfl (lv_at hl 2 rfl) ?_
    refine lv_bipush (v := 16) hx hb d_MO_has_3 (by decide) ?_
    refine lv_aload_n hx hb d_MO_has_5 rfl (lv_at hl 0 rfl) ?_
    refine g_MO_kept hX t_415 hWd hv0 d_MO_has_6 ?_
    refine lv_iconst (v := 1) hx hb d_MO_has_9 (by decide) ?_
    refine lv_iadd hx hb d_MO_has_10 ?_
    refine lv_imul hx hb d_MO_has_11 ?_
    refine lv_icmp_ge (tgt := 77) hx hb d_MO_has_12 (by decide) (fun hc => ?_) (fun hc => ?_)
    · replace h := ifP h hc
      refine lv_iconst (v := 0) hx hb d_MO_has_77 (by decide) ?_
      obtain rfl := Option.some.inj h
      exact e_zret hX hr hlk hWd (Or.inl rfl) d_MO_has_78
    · replace h := ifN h hc
      refine lv_iload_n hx hb d_MO_has_15 rfl (lv_at hl 2 rfl) ?_
      refine lv_bipush (v := 16) hx hb d_MO_has_16 (by decide) ?_
      refine lv_icmp_ge (tgt := 34) hx hb d_MO_has_18 (by decide) (fun hc => ?_) (fun hc => ?_)
      · replace h := ifP h hc
        refine lv_iload_n hx hb d_MO_has_34 rfl (lv_at hl 2 rfl) ?_
        refine lv_bipush (v := 16) hx hb d_MO_has_35 (by decide) ?_
        refine lv_irem hx hb d_MO_has_37 (by decide) ?_
        refine lv_aload_n hx hb d_MO_has_38 rfl (lv_at hl 0 rfl) ?_
        refine g_MO_branches hX t_419 hWd hv0 d_MO_has_39 ?_
        have q1 := v_MO_branches hWd hv0
        refine lv_iload_n hx hb d_MO_has_42 rfl (lv_at hl 2 rfl) ?_
        refine lv_bipush (v := 16) hx hb d_MO_has_43 (by decide) ?_
        refine lv_idiv hx hb d_MO_has_45 (by decide) ?_
        obtain ⟨j2, hj2, h⟩ := ob h
        refine r_iald hX hWd q1 hj2 d_MO_has_46 ?_
        refine lv_icmp_ge (tgt := 54) hx hb d_MO_has_47 (by decide) (fun hc => ?_) (fun hc => ?_)
        · replace h := ifP h hc
          refine lv_iconst (v := 0) hx hb d_MO_has_54 (by decide) ?_
          refine lv_istore_n (lv' := [(3, .int 0), (0, .ref v0), (1, .int v1), (2, .int v2)]) hx hb d_MO_has_55 rfl hl (by decide) rfl (fun ls hl => ?_)
          refine lv_iload_n hx hb d_MO_has_56 rfl (lv_at hl 0 rfl) ?_
          refine lv_if_eq (tgt := 71) hx hb d_MO_has_57 (by decide) (fun hc => ?_) (fun hc => ?_)
          · replace h := ifP h hc
            refine lv_iinc (k := 3) (v := (v2 + 1)) (lv' := [(2, .int (v2 + 1)), (3, .int 0), (0, .ref v0), (1, .int v1)]) hx hb d_MO_has_71 hl rfl (by rfl) (by decide) rfl (fun ls hl => ?_)
            refine lv_goto (tgt := 2) hx hb d_MO_has_74 (by decide) ?_
            exact ih v0 v1 (v2 + 1) M _ _ _ hv0 (lv_sub hl [2, 3, 0] rfl) hWd h
          · replace h := ifN h hc
            refine lv_aload_n hx hb d_MO_has_60 rfl (lv_at hl 1 rfl) ?_
            refine lv_iload_n hx hb d_MO_has_61 rfl (lv_at hl 2 rfl) ?_
            refine lv_iload_n hx hb d_MO_has_62 rfl (lv_at hl 3 rfl) ?_
            obtain ⟨q3, hq3, h⟩ := ob h
            refine kc_z (va_runV (As := [.int v1, .int v2]) (rest := []) hX (m_MO_same l  v0 v1 v2 hv0 hq3) (cb_MO_same hts t_560 ⟨Nat.le_of_ble_eq_true rfl, Nat.le_of_ble_eq_true rfl⟩) (pv_MO hWd hv0) rfl rfl hl.1 rfl (lv_room (Nat.le_of_ble_eq_true rfl)) d_MO_has_63 ⟨Nat.zero_le _, Nat.zero_le _⟩) hWd (fun z4 H locs hWd => ?_)
            refine lv_if_eq (tgt := 71) hx hb d_MO_has_66 (by decide) (fun hc => ?_) (fun hc => ?_)
            · replace h := ifP h hc
              refine lv_iinc (k := 3) (v := (v2 + 1)) (lv' := [(2, .int (v2 + 1)), (3, .int 0), (0, .ref v0), (1, .int v1)]) hx hb d_MO_has_71 hl rfl (by rfl) (by decide) rfl (fun ls hl => ?_)
              refine lv_goto (tgt := 2) hx hb d_MO_has_74 (by decide) ?_
              exact ih v0 v1 (v2 + 1) M _ _ _ hv0 (lv_sub hl [2, 3, 0] rfl) hWd h
            · replace h := ifN h hc
              refine lv_iconst (v := 1) hx hb d_MO_has_69 (by decide) ?_
              obtain rfl := Option.some.inj h
              exact e_zret hX hr hlk hWd (Or.inr rfl) d_MO_has_70
        · replace h := ifN h hc
          refine lv_iconst (v := 1) hx hb d_MO_has_50 (by decide) ?_
          refine lv_goto (tgt := 55) hx hb d_MO_has_51 (by decide) ?_
          refine lv_istore_n (lv' := [(3, .int 1), (0, .ref v0), (1, .int v1), (2, .int v2)]) hx hb d_MO_has_55 rfl hl (by decide) rfl (fun ls hl => ?_)
          refine lv_iload_n hx hb d_MO_has_56 rfl (lv_at hl 0 rfl) ?_
          refine lv_if_eq (tgt := 71) hx hb d_MO_has_57 (by decide) (fun hc => ?_) (fun hc => ?_)
          · replace h := ifP h hc
            refine lv_iinc (k := 3) (v := (v2 + 1)) (lv' := [(2, .int (v2 + 1)), (3, .int 1), (0, .ref v0), (1, .int v1)]) hx hb d_MO_has_71 hl rfl (by rfl) (by decide) rfl (fun ls hl => ?_)
            refine lv_goto (tgt := 2) hx hb d_MO_has_74 (by decide) ?_
            exact ih v0 v1 (v2 + 1) M _ _ _ hv0 (lv_sub hl [2, 3, 0] rfl) hWd h
          · replace h := ifN h hc
            refine lv_aload_n hx hb d_MO_has_60 rfl (lv_at hl 1 rfl) ?_
            refine lv_iload_n hx hb d_MO_has_61 rfl (lv_at hl 2 rfl) ?_
            refine lv_iload_n hx hb d_MO_has_62 rfl (lv_at hl 3 rfl) ?_
            obtain ⟨q5, hq5, h⟩ := ob h
            refine kc_z (va_runV (As := [.int v1, .int v2]) (rest := []) hX (m_MO_same l  v0 v1 v2 hv0 hq5) (cb_MO_same hts t_560 ⟨Nat.le_of_ble_eq_true rfl, Nat.le_of_ble_eq_true rfl⟩) (pv_MO hWd hv0) rfl rfl hl.1 rfl (lv_room (Nat.le_of_ble_eq_true rfl)) d_MO_has_63 ⟨Nat.zero_le _, Nat.zero_le _⟩) hWd (fun z6 H locs hWd => ?_)
            refine lv_if_eq (tgt := 71) hx hb d_MO_has_66 (by decide) (fun hc => ?_) (fun hc => ?_)
            · replace h := ifP h hc
              refine lv_iinc (k := 3) (v := (v2 + 1)) (lv' := [(2, .int (v2 + 1)), (3, .int 1), (0, .ref v0), (1, .int v1)]) hx hb d_MO_has_71 hl rfl (by rfl) (by decide) rfl (fun ls hl => ?_)
              refine lv_goto (tgt := 2) hx hb d_MO_has_74 (by decide) ?_
              exact ih v0 v1 (v2 + 1) M _ _ _ hv0 (lv_sub hl [2, 3, 0] rfl) hWd h
            · replace h := ifN h hc
              refine lv_iconst (v := 1) hx hb d_MO_has_69 (by decide) ?_
              obtain rfl := Option.some.inj h
              exact e_zret hX hr hlk hWd (Or.inr rfl) d_MO_has_70
      · replace h := ifN h hc
        refine lv_iload_n hx hb d_MO_has_21 rfl (lv_at hl 2 rfl) ?_
        refine lv_iload_n hx hb d_MO_has_22 rfl (lv_at hl 1 rfl) ?_
        refine lv_icmp_ge (tgt := 30) hx hb d_MO_has_23 (by decide) (fun hc => ?_) (fun hc => ?_)
        · replace h := ifP h hc
          refine lv_iconst (v := 0) hx hb d_MO_has_30 (by decide) ?_
          refine lv_goto (tgt := 55) hx hb d_MO_has_31 (by decide) ?_
          refine lv_istore_n (lv' := [(3, .int 0), (0, .ref v0), (1, .int v1), (2, .int v2)]) hx hb d_MO_has_55 rfl hl (by decide) rfl (fun ls hl => ?_)
          refine lv_iload_n hx hb d_MO_has_56 rfl (lv_at hl 0 rfl) ?_
          refine lv_if_eq (tgt := 71) hx hb d_MO_has_57 (by decide) (fun hc => ?_) (fun hc => ?_)
          · replace h := ifP h hc
            refine lv_iinc (k := 3) (v := (v2 + 1)) (lv' := [(2, .int (v2 + 1)), (3, .int 0), (0, .ref v0), (1, .int v1)]) hx hb d_MO_has_71 hl rfl (by rfl) (by decide) rfl (fun ls hl => ?_)
            refine lv_goto (tgt := 2) hx hb d_MO_has_74 (by decide) ?_
            exact ih v0 v1 (v2 + 1) M _ _ _ hv0 (lv_sub hl [2, 3, 0] rfl) hWd h
          · replace h := ifN h hc
            refine lv_aload_n hx hb d_MO_has_60 rfl (lv_at hl 1 rfl) ?_
            refine lv_iload_n hx hb d_MO_has_61 rfl (lv_at hl 2 rfl) ?_
            refine lv_iload_n hx hb d_MO_has_62 rfl (lv_at hl 3 rfl) ?_
            obtain ⟨q7, hq7, h⟩ := ob h
            refine kc_z (va_runV (As := [.int v1, .int v2]) (rest := []) hX (m_MO_same l  v0 v1 v2 hv0 hq7) (cb_MO_same hts t_560 ⟨Nat.le_of_ble_eq_true rfl, Nat.le_of_ble_eq_true rfl⟩) (pv_MO hWd hv0) rfl rfl hl.1 rfl (lv_room (Nat.le_of_ble_eq_true rfl)) d_MO_has_63 ⟨Nat.zero_le _, Nat.zero_le _⟩) hWd (fun z8 H locs hWd => ?_)
            refine lv_if_eq (tgt := 71) hx hb d_MO_has_66 (by decide) (fun hc => ?_) (fun hc => ?_)
            · replace h := ifP h hc
              refine lv_iinc (k := 3) (v := (v2 + 1)) (lv' := [(2, .int (v2 + 1)), (3, .int 0), (0, .ref v0), (1, .int v1)]) hx hb d_MO_has_71 hl rfl (by rfl) (by decide) rfl (fun ls hl => ?_)
              refine lv_goto (tgt := 2) hx hb d_MO_has_74 (by decide) ?_
              exact ih v0 v1 (v2 + 1) M _ _ _ hv0 (lv_sub hl [2, 3, 0] rfl) hWd h
            · replace h := ifN h hc
              refine lv_iconst (v := 1) hx hb d_MO_has_69 (by decide) ?_
              obtain rfl := Option.some.inj h
              exact e_zret hX hr hlk hWd (Or.inr rfl) d_MO_has_70
        · replace h := ifN h hc
          refine lv_iconst (v := 1) hx hb d_MO_has_26 (by decide) ?_
          refine lv_goto (tgt := 55) hx hb d_MO_has_27 (by decide) ?_
          refine lv_istore_n (lv' := [(3, .int 1), (0, .ref v0), (1, .int v1), (2, .int v2)]) hx hb d_MO_has_55 rfl hl (by decide) rfl (fun ls hl => ?_)
          refine lv_iload_n hx hb d_MO_has_56 rfl (lv_at hl 0 rfl) ?_
          refine lv_if_eq (tgt := 71) hx hb d_MO_has_57 (by decide) (fun hc => ?_) (fun hc => ?_)
          · replace h := ifP h hc
            refine lv_iinc (k := 3) (v := (v2 + 1)) (lv' := [(2, .int (v2 + 1)), (3, .int 1), (0, .ref v0), (1, .int v1)]) hx hb d_MO_has_71 hl rfl (by rfl) (by decide) rfl (fun ls hl => ?_)
            refine lv_goto (tgt := 2) hx hb d_MO_has_74 (by decide) ?_
            exact ih v0 v1 (v2 + 1) M _ _ _ hv0 (lv_sub hl [2, 3, 0] rfl) hWd h
          · replace h := ifN h hc
            refine lv_aload_n hx hb d_MO_has_60 rfl (lv_at hl 1 rfl) ?_
            refine lv_iload_n hx hb d_MO_has_61 rfl (lv_at hl 2 rfl) ?_
            refine lv_iload_n hx hb d_MO_has_62 rfl (lv_at hl 3 rfl) ?_
            obtain ⟨q9, hq9, h⟩ := ob h
            refine kc_z (va_runV (As := [.int v1, .int v2]) (rest := []) hX (m_MO_same l  v0 v1 v2 hv0 hq9) (cb_MO_same hts t_560 ⟨Nat.le_of_ble_eq_true rfl, Nat.le_of_ble_eq_true rfl⟩) (pv_MO hWd hv0) rfl rfl hl.1 rfl (lv_room (Nat.le_of_ble_eq_true rfl)) d_MO_has_63 ⟨Nat.zero_le _, Nat.zero_le _⟩) hWd (fun z10 H locs hWd => ?_)
            refine lv_if_eq (tgt := 71) hx hb d_MO_has_66 (by decide) (fun hc => ?_) (fun hc => ?_)
            · replace h := ifP h hc
              refine lv_iinc (k := 3) (v := (v2 + 1)) (lv' := [(2, .int (v2 + 1)), (3, .int 1), (0, .ref v0), (1, .int v1)]) hx hb d_MO_has_71 hl rfl (by rfl) (by decide) rfl (fun ls hl => ?_)
              refine lv_goto (tgt := 2) hx hb d_MO_has_74 (by decide) ?_
              exact ih v0 v1 (v2 + 1) M _ _ _ hv0 (lv_sub hl [2, 3, 0] rfl) hWd h
            · replace h := ifN h hc
              refine lv_iconst (v := 1) hx hb d_MO_has_69 (by decide) ?_
              obtain rfl := Option.some.inj h
              exact e_zret hX hr hlk hWd (Or.inr rfl) d_MO_has_70
set_option maxHeartbeats 4000000 in
set_option maxRecDepth 100000 in
theorem m_MO_has (l : Launch) {E : En} {K G : Nat → Nat} {L : List Nat} {M : Mm} {sz : Nat} {out : Int32} (v0 : Nat) (v1 : Int32) (hv0 : K v0 = 9) (h : f_MO_has G v0 v1 M = some out) : Met l y_MO_has w_MO_has rm_MO_has (va_Pc [.ref v0, .int v1] (Wp E K G L M sz)) (QZ E K G L sz out M) 0 0 (AL L sz) := by
  refine Met.ofW (cc := b_MO_has) (maxL := 4) (ret := (some .boolean)) (by decide) rfl ?_
  intro p e s m av below meth c s₁ B hml hv
  obtain ⟨rfl, hWp⟩ := hv
  have hWd := Wd.start hWp
  obtain ⟨rfl, -⟩ := hWp
  have hX : CallFix p m c b_MO_has 4 s _ w_MO_has "NibbleTrieModel" := ⟨B.exec, B.bytes, hml, findClass_of_methodNamed B.named, atoms_spec (ws := w_MO_has) B.pre⟩
  have hx := hX.1
  have hb := hX.2.1
  have hown := hX.2.2.2.1
  have hts := hX.2.2.2.2
  have hr := B.returns
  have hlk := B.notSynchronized
  have hl := lv_entry ([.ref v0, .int v1]) (n := 4) (Nat.le_of_ble_eq_true rfl)
  rw [lg_entry_eq]
  generalize (lg_sl ([.ref v0, .int v1]) ++ List.replicate (4 - (lg_sl ([.ref v0, .int v1])).length) Slot.unset).toArray = ls at hl ⊢
  have hl : lv_has ls 4 [(0, .ref v0), (1, .int v1)] := hl
  unfold f_MO_has at h
  refine lv_iconst (v := 0) hx hb d_MO_has_0 (by decide) ?_
  refine lv_istore_n (lv' := [(2, .int 0), (0, .ref v0), (1, .int v1)]) hx hb d_MO_has_1 rfl hl (by decide) rfl (fun ls hl => ?_)
  exact w_MO_has_2 hX hr hlk FU v0 v1 0 M _ _ _ hv0 (lv_sub hl [1, 2, 0] rfl) hWd h
set_option maxHeartbeats 4000000 in
set_option maxRecDepth 100000 in
theorem m_MO_back (l : Launch) {E : En} {K G : Nat → Nat} {L : List Nat} {M : Mm} {sz : Nat} {out : Mm} (v0 : Nat) (hv0 : K v0 = 9) (h : f_MO_back G v0 M = some out) : Met l y_MO_back w_MO_back rm_MO_back (va_Pc [.ref v0] (Wp E K G L M sz)) (QV E K G L sz out) 0 0 (AL L sz) := by
  refine Met.ofW (cc := b_MO_back) (maxL := 1) (ret := none) (by decide) rfl ?_
  intro p e s m av below meth c s₁ B hml hv
  obtain ⟨rfl, hWp⟩ := hv
  have hWd := Wd.start hWp
  obtain ⟨rfl, -⟩ := hWp
  have hX : CallFix p m c b_MO_back 1 s _ w_MO_back "NibbleTrieModel" := ⟨B.exec, B.bytes, hml, findClass_of_methodNamed B.named, atoms_spec (ws := w_MO_back) B.pre⟩
  have hx := hX.1
  have hb := hX.2.1
  have hown := hX.2.2.2.1
  have hts := hX.2.2.2.2
  have hr := B.returns
  have hlk := B.notSynchronized
  have hl := lv_entry ([.ref v0]) (n := 1) (Nat.le_of_ble_eq_true rfl)
  rw [lg_entry_eq]
  generalize (lg_sl ([.ref v0]) ++ List.replicate (1 - (lg_sl ([.ref v0])).length) Slot.unset).toArray = ls at hl ⊢
  have hl : lv_has ls 1 [(0, .ref v0)] := hl
  unfold f_MO_back at h
  refine lv_aload_n hx hb d_MO_back_0 rfl (lv_at hl 0 rfl) ?_
  refine g_MO_kept hX t_415 hWd hv0 d_MO_back_1 ?_
  refine lv_if_ne (tgt := 17) hx hb d_MO_back_4 (by decide) (fun hc => ?_) (fun hc => ?_)
  · replace h := ifN h hc
    refine lv_aload_n hx hb d_MO_back_17 rfl (lv_at hl 0 rfl) ?_
    refine lv_iconst (v := 1) hx hb d_MO_back_18 (by decide) ?_
    refine lv_iconst (v := 0) hx hb d_MO_back_19 (by decide) ?_
    obtain ⟨q1, hq1, h⟩ := ob h
    refine kc_v (va_runV (As := [.int 1, .int 0]) (rest := []) hX (m_MO_copy l  v0 1 0 hv0 hq1) (cb_MO_copy hts t_568 ⟨Nat.le_of_ble_eq_true rfl, Nat.le_of_ble_eq_true rfl⟩) (pv_MO hWd hv0) rfl rfl hl.1 rfl (lv_room (Nat.le_of_ble_eq_true rfl)) d_MO_back_20 ⟨Nat.zero_le _, Nat.zero_le _⟩) hWd (fun H locs hWd => ?_)
    obtain rfl := Option.some.inj h
    exact e_vret hX hr hlk hWd d_MO_back_23
  · replace h := ifP h hc
    refine lv_aload_n hx hb d_MO_back_7 rfl (lv_at hl 0 rfl) ?_
    refine g_MO_sizes hX t_414 hWd hv0 d_MO_back_8 ?_
    have q2 := v_MO_sizes hWd hv0
    refine lv_iconst (v := 0) hx hb d_MO_back_11 (by decide) ?_
    refine lv_iconst (v := 0) hx hb d_MO_back_12 (by decide) ?_
    obtain ⟨j3, hj3, h⟩ := ob h
    refine r_iast hX hWd q2 hj3 d_MO_back_13 (fun H locs hWd => ?_)
    obtain ⟨M4, eM4, h⟩ := stE h
    rw [← eM4] at hWd
    refine lv_goto (tgt := 23) hx hb d_MO_back_14 (by decide) ?_
    obtain rfl := Option.some.inj h
    exact e_vret hX hr hlk hWd d_MO_back_23
set_option maxHeartbeats 4000000 in
set_option maxRecDepth 100000 in
theorem w_MO_commit_87 {p : Program} {l : Launch} {e : Env} {s : State} {m : MethodId} {args : Array Value} {below : List Frame} {meth : Method} {c : Code} {E : En} {K G : Nat → Nat} {L : List Nat} (hX : CallFix p m c b_MO_commit 4 s args w_MO_commit "NibbleTrieModel") (hr : meth.sig.returnType = (some .int)) (hlk : meth.locks = false) {out : Int32 × Mm} : ∀ (n : Nat) (v0 : Nat) (v2 : Int32) (v3 : Int32) (M : Mm) (H : Heap) (locs : List Loc) (ls : Array Slot), K v0 = 9 → lv_has ls 4 [(0, .ref v0), (2, .int v2), (3, .int v3)] → Wd E K G L M s.heap H locs s → f_MO_commit_87 G n v0 v2 v3 M = some out → W p l e rm_MO_commit s m args below meth c H locs 0 0 (MQ below (QI E K G L s.heap.size out.1 out.2) args s 0 0 (AL L s.heap.size)) (F0 m 87 ls []) := by
  have hx := hX.1
  have hb := hX.2.1
  have hown := hX.2.2.2.1
  have hts := hX.2.2.2.2
  intro n
  induction n with
  | zero => intro _ _ _ _ _ _ _ _ _ _ h; rw [f_MO_commit_87] at h; cases h
  | succ n ih =>
    intro v0 v2 v3 M H locs ls hv0 hl hWd h
    rw [f_MO_commit_87] at h
    refine lv_iload_n hx hb d_MO_commit_87 rfl (lv_at hl 2 rfl) ?_
    refine lv_if_le (tgt := 105) hx hb d_MO_commit_88 (by decide) (fun hc => ?_) (fun hc => ?_)
    · replace h := ifP h hc
      refine lv_iload_n hx hb d_MO_commit_105 rfl (lv_at hl 1 rfl) ?_
      obtain rfl := Option.some.inj h
      exact e_iret hX hr hlk hWd d_MO_commit_106
    · replace h := ifN h hc
      refine lv_aload_n hx hb d_MO_commit_91 rfl (lv_at hl 0 rfl) ?_
      refine lv_iload_n hx hb d_MO_commit_92 rfl (lv_at hl 2 rfl) ?_
      refine lv_iconst (v := 1) hx hb d_MO_commit_93 (by decide) ?_
      refine lv_isub hx hb d_MO_commit_94 ?_
      refine lv_iload_n hx hb d_MO_commit_95 rfl (lv_at hl 2 rfl) ?_
      obtain ⟨q1, hq1, h⟩ := ob h
      refine kc_v (va_runV (As := [.int (v3 - 1), .int v3]) (rest := []) hX (m_MO_copy l  v0 (v3 - 1) v3 hv0 hq1) (cb_MO_copy hts t_568 ⟨Nat.le_of_ble_eq_true rfl, Nat.le_of_ble_eq_true rfl⟩) (pv_MO hWd hv0) rfl rfl hl.1 rfl (lv_room (Nat.le_of_ble_eq_true rfl)) d_MO_commit_96 ⟨Nat.zero_le _, Nat.zero_le _⟩) hWd (fun H locs hWd => ?_)
      refine lv_iinc (k := 2) (v := (v3 + (-1))) (lv' := [(3, .int (v3 + (-1))), (0, .ref v0), (2, .int v2)]) hx hb d_MO_commit_99 hl rfl (by rfl) (by decide) rfl (fun ls hl => ?_)
      refine lv_goto (tgt := 87) hx hb d_MO_commit_102 (by decide) ?_
      exact ih v0 v2 (v3 + (-1)) q1 _ _ _ hv0 (lv_sub hl [1, 2, 0] rfl) hWd h
set_option maxHeartbeats 4000000 in
set_option maxRecDepth 100000 in
theorem w_MO_commit_9 {p : Program} {l : Launch} {e : Env} {s : State} {m : MethodId} {args : Array Value} {below : List Frame} {meth : Method} {c : Code} {E : En} {K G : Nat → Nat} {L : List Nat} (hX : CallFix p m c b_MO_commit 4 s args w_MO_commit "NibbleTrieModel") (hr : meth.sig.returnType = (some .int)) (hlk : meth.locks = false) {out : Int32 × Mm} : ∀ (n : Nat) (v0 : Nat) (v1 : Int32) (v2 : Int32) (v3 : Int32) (M : Mm) (H : Heap) (locs : List Loc) (ls : Array Slot), K v0 = 9 → lv_has ls 4 [(0, .ref v0), (1, .int v1), (2, .int v2), (3, .int v3)] → Wd E K G L M s.heap H locs s → f_MO_commit_9 G n v0 v1 v2 v3 M = some out → W p l e rm_MO_commit s m args below meth c H locs 0 0 (MQ below (QI E K G L s.heap.size out.1 out.2) args s 0 0 (AL L s.heap.size)) (F0 m 9 ls []) := by
  have hx := hX.1
  have hb := hX.2.1
  have hown := hX.2.2.2.1
  have hts := hX.2.2.2.2
  intro n
  induction n with
  | zero => intro _ _ _ _ _ _ _ _ _ _ _ h; rw [f_MO_commit_9] at h; cases h
  | succ n ih =>
    intro v0 v1 v2 v3 M H locs ls hv0 hl hWd h
    rw [f_MO_commit_9] at h
    refine lv_iload_n hx hb d_MO_commit_9 rfl (lv_at hl 3 rfl) ?_
    refine lv_aload_n hx hb d_MO_commit_10 rfl (lv_at hl 0 rfl) ?_
    refine g_MO_branches hX t_419 hWd hv0 d_MO_commit_11 ?_
    have q1 := v_MO_branches hWd hv0
    refine lv_iconst (v := 0) hx hb d_MO_commit_14 (by decide) ?_
    obtain ⟨j2, hj2, h⟩ := ob h
    refine r_iald hX hWd q1 hj2 d_MO_commit_15 ?_
    refine lv_icmp_ge (tgt := 41) hx hb d_MO_commit_16 (by decide) (fun hc => ?_) (fun hc => ?_)
    · replace h := ifP h hc
      refine lv_iload_n hx hb d_MO_commit_41 rfl (lv_at hl 1 rfl) ?_
      refine lv_iload_n hx hb d_MO_commit_42 rfl (lv_at hl 2 rfl) ?_
      refine lv_iconst (v := 1) hx hb d_MO_commit_43 (by decide) ?_
      refine lv_iadd hx hb d_MO_commit_44 ?_
      refine lv_icmp_ge (tgt := 54) hx hb d_MO_commit_45 (by decide) (fun hc => ?_) (fun hc => ?_)
      · replace h := ifP h hc
        refine lv_aload_n hx hb d_MO_commit_54 rfl (lv_at hl 0 rfl) ?_
        refine lv_aload_n hx hb d_MO_commit_55 rfl (lv_at hl 0 rfl) ?_
        refine g_MO_kept hX t_415 hWd hv0 d_MO_commit_56 ?_
        refine lv_aload_n hx hb d_MO_commit_59 rfl (lv_at hl 0 rfl) ?_
        refine g_MO_many hX t_416 hWd hv0 d_MO_commit_60 ?_
        refine lv_icmp_ge (tgt := 75) hx hb d_MO_commit_63 (by decide) (fun hc => ?_) (fun hc => ?_)
        · replace h := ifP h hc
          refine lv_aload_n hx hb d_MO_commit_75 rfl (lv_at hl 0 rfl) ?_
          refine g_MO_kept hX t_415 hWd hv0 d_MO_commit_76 ?_
          refine p_MO_kept hX t_415 hWd hv0 d_MO_commit_79 (fun H locs hWd => ?_)
          obtain ⟨M3, eM3, h⟩ := stE h
          rw [← eM3] at hWd
          refine lv_aload_n hx hb d_MO_commit_82 rfl (lv_at hl 0 rfl) ?_
          refine g_MO_kept hX t_415 hWd hv0 d_MO_commit_83 ?_
          refine lv_istore_n (lv' := [(3, .int (gi M3 v0 3)), (0, .ref v0), (1, .int v1), (2, .int v2)]) hx hb d_MO_commit_86 rfl hl (by decide) rfl (fun ls hl => ?_)
          exact w_MO_commit_87 hX hr hlk FU v0 v2 (gi M3 v0 3) M3 _ _ _ hv0 (lv_sub hl [1, 3, 0] rfl) hWd h
        · replace h := ifN h hc
          refine lv_aload_n hx hb d_MO_commit_66 rfl (lv_at hl 0 rfl) ?_
          refine g_MO_kept hX t_415 hWd hv0 d_MO_commit_67 ?_
          refine lv_iconst (v := 1) hx hb d_MO_commit_70 (by decide) ?_
          refine lv_iadd hx hb d_MO_commit_71 ?_
          refine lv_goto (tgt := 79) hx hb d_MO_commit_72 (by decide) ?_
          refine p_MO_kept hX t_415 hWd hv0 d_MO_commit_79 (fun H locs hWd => ?_)
          obtain ⟨M4, eM4, h⟩ := stE h
          rw [← eM4] at hWd
          refine lv_aload_n hx hb d_MO_commit_82 rfl (lv_at hl 0 rfl) ?_
          refine g_MO_kept hX t_415 hWd hv0 d_MO_commit_83 ?_
          refine lv_istore_n (lv' := [(3, .int (gi M4 v0 3)), (0, .ref v0), (1, .int v1), (2, .int v2)]) hx hb d_MO_commit_86 rfl hl (by decide) rfl (fun ls hl => ?_)
          exact w_MO_commit_87 hX hr hlk FU v0 v2 (gi M4 v0 3) M4 _ _ _ hv0 (lv_sub hl [1, 3, 0] rfl) hWd h
      · replace h := ifN h hc
        refine lv_aload_n hx hb d_MO_commit_48 rfl (lv_at hl 0 rfl) ?_
        obtain ⟨q5, hq5, h⟩ := ob h
        refine kc_v (va_runV (As := []) (rest := []) hX (m_MO_back l  v0 hv0 hq5) (cb_MO_back hts t_564 ⟨Nat.le_of_ble_eq_true rfl, Nat.le_of_ble_eq_true rfl⟩) (pv_MO hWd hv0) rfl rfl hl.1 rfl (lv_room (Nat.le_of_ble_eq_true rfl)) d_MO_commit_49 ⟨Nat.zero_le _, Nat.zero_le _⟩) hWd (fun H locs hWd => ?_)
        refine lv_iconst (v := (-1)) hx hb d_MO_commit_52 (by decide) ?_
        obtain rfl := Option.some.inj h
        exact e_iret hX hr hlk hWd d_MO_commit_53
    · replace h := ifN h hc
      refine lv_aload_n hx hb d_MO_commit_19 rfl (lv_at hl 0 rfl) ?_
      refine lv_iload_n hx hb d_MO_commit_20 rfl (lv_at hl 3 rfl) ?_
      obtain ⟨q6, hq6, h⟩ := ob h
      refine kc_z (va_runV (As := [.int v3]) (rest := []) hX (m_MO_has l  v0 v3 hv0 hq6) (cb_MO_has hts t_556 ⟨Nat.le_of_ble_eq_true rfl, Nat.le_of_ble_eq_true rfl⟩) (pv_MO hWd hv0) rfl rfl hl.1 rfl (lv_room (Nat.le_of_ble_eq_true rfl)) d_MO_commit_21 ⟨Nat.zero_le _, Nat.zero_le _⟩) hWd (fun z7 H locs hWd => ?_)
      refine lv_if_eq (tgt := 31) hx hb d_MO_commit_24 (by decide) (fun hc => ?_) (fun hc => ?_)
      · replace h := ifP h hc
        refine lv_iload_n hx hb d_MO_commit_31 rfl (lv_at hl 2 rfl) ?_
        refine lv_iconst (v := 1) hx hb d_MO_commit_32 (by decide) ?_
        refine lv_iadd hx hb d_MO_commit_33 ?_
        refine lv_istore_n (lv' := [(2, .int (v2 + 1)), (0, .ref v0), (1, .int v1), (3, .int v3)]) hx hb d_MO_commit_34 rfl hl (by decide) rfl (fun ls hl => ?_)
        refine lv_iinc (k := 3) (v := (v3 + 1)) (lv' := [(3, .int (v3 + 1)), (2, .int (v2 + 1)), (0, .ref v0), (1, .int v1)]) hx hb d_MO_commit_35 hl rfl (by rfl) (by decide) rfl (fun ls hl => ?_)
        refine lv_goto (tgt := 9) hx hb d_MO_commit_38 (by decide) ?_
        exact ih v0 v1 (v2 + 1) (v3 + 1) M _ _ _ hv0 (lv_sub hl [2, 3, 1, 0] rfl) hWd h
      · replace h := ifN h hc
        refine lv_iload_n hx hb d_MO_commit_27 rfl (lv_at hl 2 rfl) ?_
        refine lv_goto (tgt := 34) hx hb d_MO_commit_28 (by decide) ?_
        refine lv_istore_n (lv' := [(2, .int v2), (0, .ref v0), (1, .int v1), (3, .int v3)]) hx hb d_MO_commit_34 rfl hl (by decide) rfl (fun ls hl => ?_)
        refine lv_iinc (k := 3) (v := (v3 + 1)) (lv' := [(3, .int (v3 + 1)), (2, .int v2), (0, .ref v0), (1, .int v1)]) hx hb d_MO_commit_35 hl rfl (by rfl) (by decide) rfl (fun ls hl => ?_)
        refine lv_goto (tgt := 9) hx hb d_MO_commit_38 (by decide) ?_
        exact ih v0 v1 v2 (v3 + 1) M _ _ _ hv0 (lv_sub hl [2, 3, 1, 0] rfl) hWd h
set_option maxHeartbeats 4000000 in
set_option maxRecDepth 100000 in
theorem m_MO_commit (l : Launch) {E : En} {K G : Nat → Nat} {L : List Nat} {M : Mm} {sz : Nat} {out : Int32 × Mm} (v0 : Nat) (v1 : Int32) (hv0 : K v0 = 9) (h : f_MO_commit G v0 v1 M = some out) : Met l y_MO_commit w_MO_commit rm_MO_commit (va_Pc [.ref v0, .int v1] (Wp E K G L M sz)) (QI E K G L sz out.1 out.2) 0 0 (AL L sz) := by
  refine Met.ofW (cc := b_MO_commit) (maxL := 4) (ret := (some .int)) (by decide) rfl ?_
  intro p e s m av below meth c s₁ B hml hv
  obtain ⟨rfl, hWp⟩ := hv
  have hWd := Wd.start hWp
  obtain ⟨rfl, -⟩ := hWp
  have hX : CallFix p m c b_MO_commit 4 s _ w_MO_commit "NibbleTrieModel" := ⟨B.exec, B.bytes, hml, findClass_of_methodNamed B.named, atoms_spec (ws := w_MO_commit) B.pre⟩
  have hx := hX.1
  have hb := hX.2.1
  have hown := hX.2.2.2.1
  have hts := hX.2.2.2.2
  have hr := B.returns
  have hlk := B.notSynchronized
  have hl := lv_entry ([.ref v0, .int v1]) (n := 4) (Nat.le_of_ble_eq_true rfl)
  rw [lg_entry_eq]
  generalize (lg_sl ([.ref v0, .int v1]) ++ List.replicate (4 - (lg_sl ([.ref v0, .int v1])).length) Slot.unset).toArray = ls at hl ⊢
  have hl : lv_has ls 4 [(0, .ref v0), (1, .int v1)] := hl
  unfold f_MO_commit at h
  refine lv_aload_n hx hb d_MO_commit_0 rfl (lv_at hl 0 rfl) ?_
  refine lv_iconst (v := 0) hx hb d_MO_commit_1 (by decide) ?_
  obtain ⟨q1, hq1, h⟩ := ob h
  refine kc_v (va_runV (As := [.int 0]) (rest := []) hX (m_MO_build l  v0 0 hv0 hq1) (cb_MO_build hts t_493 ⟨Nat.le_of_ble_eq_true rfl, Nat.le_of_ble_eq_true rfl⟩) (pv_MO hWd hv0) rfl rfl hl.1 rfl (lv_room (Nat.le_of_ble_eq_true rfl)) d_MO_commit_2 ⟨Nat.zero_le _, Nat.zero_le _⟩) hWd (fun H locs hWd => ?_)
  refine lv_iconst (v := 0) hx hb d_MO_commit_5 (by decide) ?_
  refine lv_istore_n (lv' := [(2, .int 0), (0, .ref v0), (1, .int v1)]) hx hb d_MO_commit_6 rfl hl (by decide) rfl (fun ls hl => ?_)
  refine lv_iconst (v := 0) hx hb d_MO_commit_7 (by decide) ?_
  refine lv_istore_n (lv' := [(3, .int 0), (2, .int 0), (0, .ref v0), (1, .int v1)]) hx hb d_MO_commit_8 rfl hl (by decide) rfl (fun ls hl => ?_)
  exact w_MO_commit_9 hX hr hlk FU v0 v1 0 0 q1 _ _ _ hv0 (lv_sub hl [2, 3, 1, 0] rfl) hWd h
set_option maxHeartbeats 4000000 in
set_option maxRecDepth 100000 in
theorem m_MO_crash (l : Launch) {E : En} {K G : Nat → Nat} {L : List Nat} {M : Mm} {sz : Nat} {out : Int32 × Mm} (v0 : Nat) (hv0 : K v0 = 9) (h : f_MO_crash G v0 M = some out) : Met l y_MO_crash w_MO_crash rm_MO_crash (va_Pc [.ref v0] (Wp E K G L M sz)) (QI E K G L sz out.1 out.2) 0 0 (AL L sz) := by
  refine Met.ofW (cc := b_MO_crash) (maxL := 1) (ret := (some .int)) (by decide) rfl ?_
  intro p e s m av below meth c s₁ B hml hv
  obtain ⟨rfl, hWp⟩ := hv
  have hWd := Wd.start hWp
  obtain ⟨rfl, -⟩ := hWp
  have hX : CallFix p m c b_MO_crash 1 s _ w_MO_crash "NibbleTrieModel" := ⟨B.exec, B.bytes, hml, findClass_of_methodNamed B.named, atoms_spec (ws := w_MO_crash) B.pre⟩
  have hx := hX.1
  have hb := hX.2.1
  have hown := hX.2.2.2.1
  have hts := hX.2.2.2.2
  have hr := B.returns
  have hlk := B.notSynchronized
  have hl := lv_entry ([.ref v0]) (n := 1) (Nat.le_of_ble_eq_true rfl)
  rw [lg_entry_eq]
  generalize (lg_sl ([.ref v0]) ++ List.replicate (1 - (lg_sl ([.ref v0])).length) Slot.unset).toArray = ls at hl ⊢
  have hl : lv_has ls 1 [(0, .ref v0)] := hl
  unfold f_MO_crash at h
  refine lv_aload_n hx hb d_MO_crash_0 rfl (lv_at hl 0 rfl) ?_
  obtain ⟨q1, hq1, h⟩ := ob h
  refine kc_v (va_runV (As := []) (rest := []) hX (m_MO_back l  v0 hv0 hq1) (cb_MO_back hts t_564 ⟨Nat.le_of_ble_eq_true rfl, Nat.le_of_ble_eq_true rfl⟩) (pv_MO hWd hv0) rfl rfl hl.1 rfl (lv_room (Nat.le_of_ble_eq_true rfl)) d_MO_crash_1 ⟨Nat.zero_le _, Nat.zero_le _⟩) hWd (fun H locs hWd => ?_)
  refine lv_aload_n hx hb d_MO_crash_4 rfl (lv_at hl 0 rfl) ?_
  refine g_MO_sizes hX t_414 hWd hv0 d_MO_crash_5 ?_
  have q2 := v_MO_sizes hWd hv0
  refine lv_iconst (v := 0) hx hb d_MO_crash_8 (by decide) ?_
  obtain ⟨j3, hj3, h⟩ := ob h
  refine r_iald hX hWd q2 hj3 d_MO_crash_9 ?_
  obtain rfl := Option.some.inj h
  exact e_iret hX hr hlk hWd d_MO_crash_10
set_option maxHeartbeats 4000000 in
set_option maxRecDepth 100000 in
theorem m_MO_versions (l : Launch) {E : En} {K G : Nat → Nat} {L : List Nat} {M : Mm} {sz : Nat} {out : Int32} (v0 : Nat) (hv0 : K v0 = 9) (h : f_MO_versions G v0 M = out) : Met l y_MO_versions w_MO_versions rm_MO_versions (va_Pc [.ref v0] (Wp E K G L M sz)) (QI E K G L sz out M) 0 0 (AL L sz) := by
  refine Met.ofW (cc := b_MO_versions) (maxL := 1) (ret := (some .int)) (by decide) rfl ?_
  intro p e s m av below meth c s₁ B hml hv
  obtain ⟨rfl, hWp⟩ := hv
  have hWd := Wd.start hWp
  obtain ⟨rfl, -⟩ := hWp
  have hX : CallFix p m c b_MO_versions 1 s _ w_MO_versions "NibbleTrieModel" := ⟨B.exec, B.bytes, hml, findClass_of_methodNamed B.named, atoms_spec (ws := w_MO_versions) B.pre⟩
  have hx := hX.1
  have hb := hX.2.1
  have hown := hX.2.2.2.1
  have hts := hX.2.2.2.2
  have hr := B.returns
  have hlk := B.notSynchronized
  have hl := lv_entry ([.ref v0]) (n := 1) (Nat.le_of_ble_eq_true rfl)
  rw [lg_entry_eq]
  generalize (lg_sl ([.ref v0]) ++ List.replicate (1 - (lg_sl ([.ref v0])).length) Slot.unset).toArray = ls at hl ⊢
  have hl : lv_has ls 1 [(0, .ref v0)] := hl
  unfold f_MO_versions at h
  refine lv_aload_n hx hb d_MO_versions_0 rfl (lv_at hl 0 rfl) ?_
  refine g_MO_kept hX t_415 hWd hv0 d_MO_versions_1 ?_
  subst h
  exact e_iret hX hr hlk hWd d_MO_versions_4
set_option maxHeartbeats 4000000 in
set_option maxRecDepth 100000 in
theorem m_MO_isVersion (l : Launch) {E : En} {K G : Nat → Nat} {L : List Nat} {M : Mm} {sz : Nat} {out : Int32} (v0 : Nat) (v1 : Int32) (hv0 : K v0 = 9) (h : f_MO_isVersion G v0 v1 M = out) : Met l y_MO_isVersion w_MO_isVersion rm_MO_isVersion (va_Pc [.ref v0, .int v1] (Wp E K G L M sz)) (QZ E K G L sz out M) 0 0 (AL L sz) := by
  refine Met.ofW (cc := b_MO_isVersion) (maxL := 2) (ret := (some .boolean)) (by decide) rfl ?_
  intro p e s m av below meth c s₁ B hml hv
  obtain ⟨rfl, hWp⟩ := hv
  have hWd := Wd.start hWp
  obtain ⟨rfl, -⟩ := hWp
  have hX : CallFix p m c b_MO_isVersion 2 s _ w_MO_isVersion "NibbleTrieModel" := ⟨B.exec, B.bytes, hml, findClass_of_methodNamed B.named, atoms_spec (ws := w_MO_isVersion) B.pre⟩
  have hx := hX.1
  have hb := hX.2.1
  have hown := hX.2.2.2.1
  have hts := hX.2.2.2.2
  have hr := B.returns
  have hlk := B.notSynchronized
  have hl := lv_entry ([.ref v0, .int v1]) (n := 2) (Nat.le_of_ble_eq_true rfl)
  rw [lg_entry_eq]
  generalize (lg_sl ([.ref v0, .int v1]) ++ List.replicate (2 - (lg_sl ([.ref v0, .int v1])).length) Slot.unset).toArray = ls at hl ⊢
  have hl : lv_has ls 2 [(0, .ref v0), (1, .int v1)] := hl
  unfold f_MO_isVersion at h
  refine lv_iload_n hx hb d_MO_isVersion_0 rfl (lv_at hl 1 rfl) ?_
  refine lv_if_lt (tgt := 16) hx hb d_MO_isVersion_1 (by decide) (fun hc => ?_) (fun hc => ?_)
  · replace h := ifP h hc
    refine lv_iconst (v := 0) hx hb d_MO_isVersion_16 (by decide) ?_
    subst h
    exact e_zret hX hr hlk hWd (Or.inl rfl) d_MO_isVersion_17
  · replace h := ifN h hc
    refine lv_iload_n hx hb d_MO_isVersion_4 rfl (lv_at hl 1 rfl) ?_
    refine lv_aload_n hx hb d_MO_isVersion_5 rfl (lv_at hl 0 rfl) ?_
    refine g_MO_kept hX t_415 hWd hv0 d_MO_isVersion_6 ?_
    refine lv_icmp_ge (tgt := 16) hx hb d_MO_isVersion_9 (by decide) (fun hc => ?_) (fun hc => ?_)
    · replace h := ifP h hc
      refine lv_iconst (v := 0) hx hb d_MO_isVersion_16 (by decide) ?_
      subst h
      exact e_zret hX hr hlk hWd (Or.inl rfl) d_MO_isVersion_17
    · replace h := ifN h hc
      refine lv_iconst (v := 1) hx hb d_MO_isVersion_12 (by decide) ?_
      refine lv_goto (tgt := 17) hx hb d_MO_isVersion_13 (by decide) ?_
      subst h
      exact e_zret hX hr hlk hWd (Or.inr rfl) d_MO_isVersion_17
set_option maxHeartbeats 4000000 in
set_option maxRecDepth 100000 in
theorem m_MO_at (l : Launch) {E : En} {K G : Nat → Nat} {L : List Nat} {M : Mm} {sz : Nat} {out : Int32} (v0 : Nat) (v1 : Int32) (v2 : Int32) (hv0 : K v0 = 9) (h : f_MO_at G v0 v1 v2 M = some out) : Met l y_MO_at w_MO_at rm_MO_at (va_Pc [.ref v0, .int v1, .int v2] (Wp E K G L M sz)) (QI E K G L sz out M) 0 0 (AL L sz) := by
  refine Met.ofW (cc := b_MO_at) (maxL := 3) (ret := (some .int)) (by decide) rfl ?_
  intro p e s m av below meth c s₁ B hml hv
  obtain ⟨rfl, hWp⟩ := hv
  have hWd := Wd.start hWp
  obtain ⟨rfl, -⟩ := hWp
  have hX : CallFix p m c b_MO_at 3 s _ w_MO_at "NibbleTrieModel" := ⟨B.exec, B.bytes, hml, findClass_of_methodNamed B.named, atoms_spec (ws := w_MO_at) B.pre⟩
  have hx := hX.1
  have hb := hX.2.1
  have hown := hX.2.2.2.1
  have hts := hX.2.2.2.2
  have hr := B.returns
  have hlk := B.notSynchronized
  have hl := lv_entry ([.ref v0, .int v1, .int v2]) (n := 3) (Nat.le_of_ble_eq_true rfl)
  rw [lg_entry_eq]
  generalize (lg_sl ([.ref v0, .int v1, .int v2]) ++ List.replicate (3 - (lg_sl ([.ref v0, .int v1, .int v2])).length) Slot.unset).toArray = ls at hl ⊢
  have hl : lv_has ls 3 [(0, .ref v0), (1, .int v1), (2, .int v2)] := hl
  unfold f_MO_at at h
  refine lv_aload_n hx hb d_MO_at_0 rfl (lv_at hl 0 rfl) ?_
  refine lv_iload_n hx hb d_MO_at_1 rfl (lv_at hl 1 rfl) ?_
  refine kc_z (va_runV (As := [.int v1]) (rest := []) hX (m_MO_isVersion l  v0 v1 hv0 rfl) (cb_MO_isVersion hts t_584 ⟨Nat.le_of_ble_eq_true rfl, Nat.le_of_ble_eq_true rfl⟩) (pv_MO hWd hv0) rfl rfl hl.1 rfl (lv_room (Nat.le_of_ble_eq_true rfl)) d_MO_at_2 ⟨Nat.zero_le _, Nat.zero_le _⟩) hWd (fun z1 H locs hWd => ?_)
  refine lv_if_eq (tgt := 19) hx hb d_MO_at_5 (by decide) (fun hc => ?_) (fun hc => ?_)
  · replace h := ifP h hc
    refine lv_iconst (v := 0) hx hb d_MO_at_19 (by decide) ?_
    obtain rfl := Option.some.inj h
    exact e_iret hX hr hlk hWd d_MO_at_20
  · replace h := ifN h hc
    refine lv_aload_n hx hb d_MO_at_8 rfl (lv_at hl 0 rfl) ?_
    refine lv_iload_n hx hb d_MO_at_9 rfl (lv_at hl 1 rfl) ?_
    refine lv_iconst (v := 1) hx hb d_MO_at_10 (by decide) ?_
    refine lv_iadd hx hb d_MO_at_11 ?_
    refine lv_iload_n hx hb d_MO_at_12 rfl (lv_at hl 2 rfl) ?_
    obtain ⟨q2, hq2, h⟩ := ob h
    refine kc_i (va_runV (As := [.int (v1 + 1), .int v2]) (rest := []) hX (m_MO_valueIn l  v0 (v1 + 1) v2 hv0 hq2) (cb_MO_valueIn hts t_481 ⟨Nat.le_of_ble_eq_true rfl, Nat.le_of_ble_eq_true rfl⟩) (pv_MO hWd hv0) rfl rfl hl.1 rfl (lv_room (Nat.le_of_ble_eq_true rfl)) d_MO_at_13 ⟨Nat.zero_le _, Nat.zero_le _⟩) hWd (fun H locs hWd => ?_)
    refine lv_goto (tgt := 20) hx hb d_MO_at_16 (by decide) ?_
    obtain rfl := Option.some.inj h
    exact e_iret hX hr hlk hWd d_MO_at_20
set_option maxHeartbeats 4000000 in
set_option maxRecDepth 100000 in
theorem m_MO_rootAt (l : Launch) {E : En} {K G : Nat → Nat} {L : List Nat} {M : Mm} {sz : Nat} {out : Int64 × Mm} (v0 : Nat) (v1 : Int32) (hv0 : K v0 = 9) (h : f_MO_rootAt G v0 v1 M = some out) : Met l y_MO_rootAt w_MO_rootAt rm_MO_rootAt (va_Pc [.ref v0, .int v1] (Wp E K G L M sz)) (QL E K G L sz out.1 out.2) 0 0 (AL L sz) := by
  refine Met.ofW (cc := b_MO_rootAt) (maxL := 2) (ret := (some .long)) (by decide) rfl ?_
  intro p e s m av below meth c s₁ B hml hv
  obtain ⟨rfl, hWp⟩ := hv
  have hWd := Wd.start hWp
  obtain ⟨rfl, -⟩ := hWp
  have hX : CallFix p m c b_MO_rootAt 2 s _ w_MO_rootAt "NibbleTrieModel" := ⟨B.exec, B.bytes, hml, findClass_of_methodNamed B.named, atoms_spec (ws := w_MO_rootAt) B.pre⟩
  have hx := hX.1
  have hb := hX.2.1
  have hown := hX.2.2.2.1
  have hts := hX.2.2.2.2
  have hr := B.returns
  have hlk := B.notSynchronized
  have hl := lv_entry ([.ref v0, .int v1]) (n := 2) (Nat.le_of_ble_eq_true rfl)
  rw [lg_entry_eq]
  generalize (lg_sl ([.ref v0, .int v1]) ++ List.replicate (2 - (lg_sl ([.ref v0, .int v1])).length) Slot.unset).toArray = ls at hl ⊢
  have hl : lv_has ls 2 [(0, .ref v0), (1, .int v1)] := hl
  unfold f_MO_rootAt at h
  refine lv_aload_n hx hb d_MO_rootAt_0 rfl (lv_at hl 0 rfl) ?_
  refine lv_iload_n hx hb d_MO_rootAt_1 rfl (lv_at hl 1 rfl) ?_
  refine kc_z (va_runV (As := [.int v1]) (rest := []) hX (m_MO_isVersion l  v0 v1 hv0 rfl) (cb_MO_isVersion hts t_584 ⟨Nat.le_of_ble_eq_true rfl, Nat.le_of_ble_eq_true rfl⟩) (pv_MO hWd hv0) rfl rfl hl.1 rfl (lv_room (Nat.le_of_ble_eq_true rfl)) d_MO_rootAt_2 ⟨Nat.zero_le _, Nat.zero_le _⟩) hWd (fun z1 H locs hWd => ?_)
  refine lv_if_ne (tgt := 10) hx hb d_MO_rootAt_5 (by decide) (fun hc => ?_) (fun hc => ?_)
  · replace h := ifN h hc
    refine lv_aload_n hx hb d_MO_rootAt_10 rfl (lv_at hl 0 rfl) ?_
    refine lv_iload_n hx hb d_MO_rootAt_11 rfl (lv_at hl 1 rfl) ?_
    refine lv_iconst (v := 1) hx hb d_MO_rootAt_12 (by decide) ?_
    refine lv_iadd hx hb d_MO_rootAt_13 ?_
    obtain ⟨q2, hq2, h⟩ := ob h
    refine kc_l (va_runV (As := [.int (v1 + 1)]) (rest := []) hX (m_MO_rootOf l  v0 (v1 + 1) hv0 hq2) (cb_MO_rootOf hts t_544 ⟨Nat.le_of_ble_eq_true rfl, Nat.le_of_ble_eq_true rfl⟩) (pv_MO hWd hv0) rfl rfl hl.1 rfl (lv_room (Nat.le_of_ble_eq_true rfl)) d_MO_rootAt_14 ⟨Nat.zero_le _, Nat.zero_le _⟩) hWd (fun H locs hWd => ?_)
    obtain rfl := Option.some.inj h
    exact e_lret hX hr hlk hWd d_MO_rootAt_17
  · replace h := ifP h hc
    refine lv_lconst (v := 0) hx hb d_MO_rootAt_8 (by decide) ?_
    obtain rfl := Option.some.inj h
    exact e_lret hX hr hlk hWd d_MO_rootAt_9
set_option maxHeartbeats 4000000 in
set_option maxRecDepth 100000 in
theorem w_MO_stored_5 {p : Program} {l : Launch} {e : Env} {s : State} {m : MethodId} {args : Array Value} {below : List Frame} {meth : Method} {c : Code} {E : En} {K G : Nat → Nat} {L : List Nat} (hX : CallFix p m c b_MO_stored 3 s args w_MO_stored "NibbleTrieModel") (hr : meth.sig.returnType = (some .int)) (hlk : meth.locks = false) {out : Int32} : ∀ (n : Nat) (v0 : Nat) (v1 : Int32) (v2 : Int32) (M : Mm) (H : Heap) (locs : List Loc) (ls : Array Slot), K v0 = 9 → lv_has ls 3 [(0, .ref v0), (1, .int v1), (2, .int v2)] → Wd E K G L M s.heap H locs s → f_MO_stored_5 G n v0 v1 v2 M = some out → W p l e rm_MO_stored s m args below meth c H locs 0 0 (MQ below (QI E K G L s.heap.size out M) args s 0 0 (AL L s.heap.size)) (F0 m 5 ls []) := by
  have hx := hX.1
  have hb := hX.2.1
  have hown := hX.2.2.2.1
  have hts := hX.2.2.2.2
  intro n
  induction n with
  | zero => intro _ _ _ _ _ _ _ _ _ _ h; rw [f_MO_stored_5] at h; cases h
  | succ n ih =>
    intro v0 v1 v2 M H locs ls hv0 hl hWd h
    rw [f_MO_stored_5] at h
    refine lv_iload_n hx hb d_MO_stored_5 rfl (lv_at hl 2 rfl) ?_
    refine lv_bipush (v := 64) hx hb d_MO_stored_6 (by decide) ?_
    refine lv_icmp_ge (tgt := 33) hx hb d_MO_stored_8 (by decide) (fun hc => ?_) (fun hc => ?_)
    · replace h := ifP h hc
      refine lv_iload_n hx hb d_MO_stored_33 rfl (lv_at hl 1 rfl) ?_
      obtain rfl := Option.some.inj h
      exact e_iret hX hr hlk hWd d_MO_stored_34
    · replace h := ifN h hc
      refine lv_aload_n hx hb d_MO_stored_11 rfl (lv_at hl 0 rfl) ?_
      refine lv_iload_n hx hb d_MO_stored_12 rfl (lv_at hl 2 rfl) ?_
      obtain ⟨q1, hq1, h⟩ := ob h
      refine kc_z (va_runV (As := [.int v2]) (rest := []) hX (m_MO_stands l  v0 v2 hv0 hq1) (cb_MO_stands hts t_596 ⟨Nat.le_of_ble_eq_true rfl, Nat.le_of_ble_eq_true rfl⟩) (pv_MO hWd hv0) rfl rfl hl.1 rfl (lv_room (Nat.le_of_ble_eq_true rfl)) d_MO_stored_13 ⟨Nat.zero_le _, Nat.zero_le _⟩) hWd (fun z2 H locs hWd => ?_)
      refine lv_if_eq (tgt := 25) hx hb d_MO_stored_16 (by decide) (fun hc => ?_) (fun hc => ?_)
      · replace h := ifP h hc
        refine lv_iload_n hx hb d_MO_stored_25 rfl (lv_at hl 1 rfl) ?_
        refine lv_istore_n (lv' := [(1, .int v1), (0, .ref v0), (2, .int v2)]) hx hb d_MO_stored_26 rfl hl (by decide) rfl (fun ls hl => ?_)
        refine lv_iinc (k := 2) (v := (v2 + 1)) (lv' := [(2, .int (v2 + 1)), (1, .int v1), (0, .ref v0)]) hx hb d_MO_stored_27 hl rfl (by rfl) (by decide) rfl (fun ls hl => ?_)
        refine lv_goto (tgt := 5) hx hb d_MO_stored_30 (by decide) ?_
        exact ih v0 v1 (v2 + 1) M _ _ _ hv0 (lv_sub hl [2, 1, 0] rfl) hWd h
      · replace h := ifN h hc
        refine lv_iload_n hx hb d_MO_stored_19 rfl (lv_at hl 1 rfl) ?_
        refine lv_iconst (v := 1) hx hb d_MO_stored_20 (by decide) ?_
        refine lv_iadd hx hb d_MO_stored_21 ?_
        refine lv_goto (tgt := 26) hx hb d_MO_stored_22 (by decide) ?_
        refine lv_istore_n (lv' := [(1, .int (v1 + 1)), (0, .ref v0), (2, .int v2)]) hx hb d_MO_stored_26 rfl hl (by decide) rfl (fun ls hl => ?_)
        refine lv_iinc (k := 2) (v := (v2 + 1)) (lv' := [(2, .int (v2 + 1)), (1, .int (v1 + 1)), (0, .ref v0)]) hx hb d_MO_stored_27 hl rfl (by rfl) (by decide) rfl (fun ls hl => ?_)
        refine lv_goto (tgt := 5) hx hb d_MO_stored_30 (by decide) ?_
        exact ih v0 (v1 + 1) (v2 + 1) M _ _ _ hv0 (lv_sub hl [2, 1, 0] rfl) hWd h
set_option maxHeartbeats 4000000 in
set_option maxRecDepth 100000 in
theorem m_MO_stored (l : Launch) {E : En} {K G : Nat → Nat} {L : List Nat} {M : Mm} {sz : Nat} {out : Int32} (v0 : Nat) (hv0 : K v0 = 9) (h : f_MO_stored G v0 M = some out) : Met l y_MO_stored w_MO_stored rm_MO_stored (va_Pc [.ref v0] (Wp E K G L M sz)) (QI E K G L sz out M) 0 0 (AL L sz) := by
  refine Met.ofW (cc := b_MO_stored) (maxL := 3) (ret := (some .int)) (by decide) rfl ?_
  intro p e s m av below meth c s₁ B hml hv
  obtain ⟨rfl, hWp⟩ := hv
  have hWd := Wd.start hWp
  obtain ⟨rfl, -⟩ := hWp
  have hX : CallFix p m c b_MO_stored 3 s _ w_MO_stored "NibbleTrieModel" := ⟨B.exec, B.bytes, hml, findClass_of_methodNamed B.named, atoms_spec (ws := w_MO_stored) B.pre⟩
  have hx := hX.1
  have hb := hX.2.1
  have hown := hX.2.2.2.1
  have hts := hX.2.2.2.2
  have hr := B.returns
  have hlk := B.notSynchronized
  have hl := lv_entry ([.ref v0]) (n := 3) (Nat.le_of_ble_eq_true rfl)
  rw [lg_entry_eq]
  generalize (lg_sl ([.ref v0]) ++ List.replicate (3 - (lg_sl ([.ref v0])).length) Slot.unset).toArray = ls at hl ⊢
  have hl : lv_has ls 3 [(0, .ref v0)] := hl
  unfold f_MO_stored at h
  refine lv_iconst (v := 0) hx hb d_MO_stored_0 (by decide) ?_
  refine lv_istore_n (lv' := [(1, .int 0), (0, .ref v0)]) hx hb d_MO_stored_1 rfl hl (by decide) rfl (fun ls hl => ?_)
  refine lv_bipush (v := 16) hx hb d_MO_stored_2 (by decide) ?_
  refine lv_istore_n (lv' := [(2, .int 16), (1, .int 0), (0, .ref v0)]) hx hb d_MO_stored_4 rfl hl (by decide) rfl (fun ls hl => ?_)
  exact w_MO_stored_5 hX hr hlk FU v0 0 16 M _ _ _ hv0 (lv_sub hl [2, 1, 0] rfl) hWd h
