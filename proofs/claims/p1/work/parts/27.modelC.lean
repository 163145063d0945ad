/-! the walks of these methods, by program out of the bytecode -/
set_option maxHeartbeats 4000000 in
set_option maxRecDepth 100000 in
theorem m_MO_leads (l : Launch) {E : En} {K G : Nat → Nat} {L : List Nat} {M : Mm} {sz : Nat} {out : Int32} (v0 : Nat) (v1 : Int32) (v2 : Int32) (v3 : Int32) (hv0 : K v0 = 9) (h : f_MO_leads G v0 v1 v2 v3 M = some out) : Met l y_MO_leads w_MO_leads rm_MO_leads (va_Pc [.ref v0, .int v1, .int v2, .int v3] (Wp E K G L M sz)) (QZ E K G L sz out M) 0 0 (AL L sz) := by
  refine Met.ofW (cc := b_MO_leads) (maxL := 7) (ret := (some .boolean)) (by decide) rfl ?_
  intro p e s m av below meth c s₁ B hml hv
  obtain ⟨rfl, hWp⟩ := hv
  have hWd := Wd.start hWp
  obtain ⟨rfl, -⟩ := hWp
  have hX : CallFix p m c b_MO_leads 7 s _ w_MO_leads "NibbleTrieModel" := ⟨B.exec, B.bytes, hml, findClass_of_methodNamed B.named, atoms_spec (ws := w_MO_leads) B.pre⟩
  have hx := hX.1
  have hb := hX.2.1
  have hown := hX.2.2.2.1
  have hts := hX.2.2.2.2
  have hr := B.returns
  have hlk := B.notSynchronized
  have hl := lv_entry ([.ref v0, .int v1, .int v2, .int v3]) (n := 7) (Nat.le_of_ble_eq_true rfl)
  rw [lg_entry_eq]
  generalize (lg_sl ([.ref v0, .int v1, .int v2, .int v3]) ++ List.replicate (7 - (lg_sl ([.ref v0, .int v1, .int v2, .int v3])).length) Slot.unset).toArray = ls at hl ⊢
  have hl : lv_has ls 7 [(0, .ref v0), (1, .int v1), (2, .int v2), (3, .int v3)] := hl
  unfold f_MO_leads at h
  refine lv_aload_n hx hb d_MO_leads_0 rfl (lv_at hl 0 rfl) ?_
  refine lv_iload_n hx hb d_MO_leads_1 rfl (lv_at hl 1 rfl) ?_
  refine lv_iload_n hx hb d_MO_leads_2 rfl (lv_at hl 2 rfl) ?_
  obtain ⟨q1, hq1, h⟩ := ob h
  refine kc_i (va_runV (As := [.int v1, .int v2]) (rest := []) hX (m_MO_members l  v0 v1 v2 hv0 hq1) (cb_MO_members hts t_505 ⟨Nat.le_of_ble_eq_true rfl, Nat.le_of_ble_eq_true rfl⟩) (pv_MO hWd hv0) rfl rfl hl.1 rfl (lv_room (Nat.le_of_ble_eq_true rfl)) d_MO_leads_3 ⟨Nat.zero_le _, Nat.zero_le _⟩) hWd (fun H locs hWd => ?_)
  refine lv_istore (lv' := [(4, .int q1), (0, .ref v0), (1, .int v1), (2, .int v2), (3, .int v3)]) hx hb d_MO_leads_6 hl (by decide) rfl (fun ls hl => ?_)
  refine lv_iload hx hb d_MO_leads_8 (lv_at hl 0 rfl) ?_
  refine lv_iconst (v := 2) hx hb d_MO_leads_10 (by decide) ?_
  refine lv_icmp_ge (tgt := 16) hx hb d_MO_leads_11 (by decide) (fun hc => ?_) (fun hc => ?_)
  · replace h := ifP h hc
    refine lv_aload_n hx hb d_MO_leads_16 rfl (lv_at hl 1 rfl) ?_
    refine lv_iload_n hx hb d_MO_leads_17 rfl (lv_at hl 2 rfl) ?_
    refine lv_iload_n hx hb d_MO_leads_18 rfl (lv_at hl 3 rfl) ?_
    obtain ⟨q2, hq2, h⟩ := ob h
    refine kc_i (va_runV (As := [.int v1, .int v2]) (rest := []) hX (m_MO_common l  v0 v1 v2 hv0 hq2) (cb_MO_common hts t_512 ⟨Nat.le_of_ble_eq_true rfl, Nat.le_of_ble_eq_true rfl⟩) (pv_MO hWd hv0) rfl rfl hl.1 rfl (lv_room (Nat.le_of_ble_eq_true rfl)) d_MO_leads_19 ⟨Nat.zero_le _, Nat.zero_le _⟩) hWd (fun H locs hWd => ?_)
    refine lv_istore (lv' := [(5, .int q2), (4, .int q1), (0, .ref v0), (1, .int v1), (2, .int v2), (3, .int v3)]) hx hb d_MO_leads_22 hl (by decide) rfl (fun ls hl => ?_)
    refine lv_aload_n hx hb d_MO_leads_24 rfl (lv_at hl 2 rfl) ?_
    refine lv_iload_n hx hb d_MO_leads_25 rfl (lv_at hl 3 rfl) ?_
    refine lv_iload hx hb d_MO_leads_26 (lv_at hl 0 rfl) ?_
    obtain ⟨q3, hq3, h⟩ := ob h
    refine kc_i (va_runV (As := [.int v1, .int q2]) (rest := []) hX (m_MO_place l  v0 v1 q2 hv0 hq3) (cb_MO_place hts t_497 ⟨Nat.le_of_ble_eq_true rfl, Nat.le_of_ble_eq_true rfl⟩) (pv_MO hWd hv0) rfl rfl hl.1 rfl (lv_room (Nat.le_of_ble_eq_true rfl)) d_MO_leads_28 ⟨Nat.zero_le _, Nat.zero_le _⟩) hWd (fun H locs hWd => ?_)
    refine lv_istore (lv' := [(6, .int q3), (5, .int q2), (4, .int q1), (0, .ref v0), (1, .int v1), (2, .int v2), (3, .int v3)]) hx hb d_MO_leads_31 hl (by decide) rfl (fun ls hl => ?_)
    refine lv_aload_n hx hb d_MO_leads_33 rfl (lv_at hl 3 rfl) ?_
    refine lv_iload_n hx hb d_MO_leads_34 rfl (lv_at hl 6 rfl) ?_
    refine lv_iload hx hb d_MO_leads_35 (lv_at hl 0 rfl) ?_
    obtain ⟨q4, hq4, h⟩ := ob h
    refine kc_z (va_runV (As := [.int v3, .int q3]) (rest := []) hX (m_MO_same l  v0 v3 q3 hv0 hq4) (cb_MO_same hts t_560 ⟨Nat.le_of_ble_eq_true rfl, Nat.le_of_ble_eq_true rfl⟩) (pv_MO hWd hv0) rfl rfl hl.1 rfl (lv_room (Nat.le_of_ble_eq_true rfl)) d_MO_leads_37 ⟨Nat.zero_le _, Nat.zero_le _⟩) hWd (fun z5 H locs hWd => ?_)
    obtain rfl := Option.some.inj h
    exact e_zret hX hr hlk hWd z5 d_MO_leads_40
  · replace h := ifN h hc
    refine lv_iconst (v := 0) hx hb d_MO_leads_14 (by decide) ?_
    obtain rfl := Option.some.inj h
    exact e_zret hX hr hlk hWd (Or.inl rfl) d_MO_leads_15
set_option maxHeartbeats 4000000 in
set_option maxRecDepth 100000 in
theorem w_MO_usesOf_55 {p : Program} {l : Launch} {e : Env} {s : State} {m : MethodId} {args : Array Value} {below : List Frame} {meth : Method} {c : Code} {E : En} {K G : Nat → Nat} {L : List Nat} (hX : CallFix p m c b_MO_usesOf 6 s args w_MO_usesOf "NibbleTrieModel") (hr : meth.sig.returnType = (some .int)) (hlk : meth.locks = false) {out : Int32} (k39 : Nat → Int32 → Int32 → Int32 → Mm → Option (Int32)) (hk39 : ∀ (v0 : Nat) (v1 : Int32) (v2 : Int32) (v3 : Int32) (M : Mm) (H : Heap) (locs : List Loc) (ls : Array Slot), K v0 = 9 → lv_has ls 6 [(0, .ref v0), (1, .int v1), (2, .int v2), (3, .int v3)] → Wd E K G L M s.heap H locs s → k39 v0 v1 v2 v3 M = some out → W p l e rm_MO_usesOf s m args below meth c H locs 0 0 (MQ below (QI E K G L s.heap.size out M) args s 0 0 (AL L s.heap.size)) (F0 m 39 ls [])) : ∀ (n : Nat) (v0 : Nat) (v1 : Int32) (v2 : Int32) (v3 : Int32) (v4 : Int32) (v5 : Int32) (M : Mm) (H : Heap) (locs : List Loc) (ls : Array Slot), K v0 = 9 → lv_has ls 6 [(0, .ref v0), (1, .int v1), (2, .int v2), (3, .int v3), (4, .int v4), (5, .int v5)] → Wd E K G L M s.heap H locs s → f_MO_usesOf_55 G k39 n v0 v1 v2 v3 v4 v5 M = some out → W p l e rm_MO_usesOf s m args below meth c H locs 0 0 (MQ below (QI E K G L s.heap.size out M) args s 0 0 (AL L s.heap.size)) (F0 m 55 ls []) := by
  have hx := hX.1
  have hb := hX.2.1
  have hown := hX.2.2.2.1
  have hts := hX.2.2.2.2
  intro n
  induction n with
  | zero => intro _ _ _ _ _ _ _ _ _ _ _ _ _ h; rw [f_MO_usesOf_55] at h; cases h
  | succ n ih =>
    intro v0 v1 v2 v3 v4 v5 M H locs ls hv0 hl hWd h
    rw [f_MO_usesOf_55] at h
    refine lv_iload hx hb d_MO_usesOf_55 (lv_at hl 5 rfl) ?_
    refine lv_bipush (v := 16) hx hb d_MO_usesOf_57 (by decide) ?_
    refine lv_icmp_ge (tgt := 105) hx hb d_MO_usesOf_59 (by decide) (fun hc => ?_) (fun hc => ?_)
    · replace h := ifP h hc
      refine lv_iinc (k := 3) (v := (v3 + 1)) (lv' := [(3, .int (v3 + 1)), (0, .ref v0), (1, .int v1), (2, .int v2), (4, .int v4), (5, .int v5)]) hx hb d_MO_usesOf_105 hl rfl (by rfl) (by decide) rfl (fun ls hl => ?_)
      refine lv_goto (tgt := 39) hx hb d_MO_usesOf_108 (by decide) ?_
      exact hk39 v0 v1 v2 (v3 + 1) M _ _ _ hv0 (lv_sub hl [1, 2, 3, 0] rfl) hWd h
    · replace h := ifN h hc
      refine lv_iload hx hb d_MO_usesOf_62 (lv_at hl 4 rfl) ?_
      refine lv_if_eq (tgt := 105) hx hb d_MO_usesOf_64 (by decide) (fun hc => ?_) (fun hc => ?_)
      · replace h := ifP h hc
        refine lv_iinc (k := 3) (v := (v3 + 1)) (lv' := [(3, .int (v3 + 1)), (0, .ref v0), (1, .int v1), (2, .int v2), (4, .int v4), (5, .int v5)]) hx hb d_MO_usesOf_105 hl rfl (by rfl) (by decide) rfl (fun ls hl => ?_)
        refine lv_goto (tgt := 39) hx hb d_MO_usesOf_108 (by decide) ?_
        exact hk39 v0 v1 v2 (v3 + 1) M _ _ _ hv0 (lv_sub hl [1, 2, 3, 0] rfl) hWd h
      · replace h := ifN h hc
        refine lv_aload_n hx hb d_MO_usesOf_67 rfl (lv_at hl 0 rfl) ?_
        refine lv_iload_n hx hb d_MO_usesOf_68 rfl (lv_at hl 3 rfl) ?_
        refine lv_bipush (v := 16) hx hb d_MO_usesOf_69 (by decide) ?_
        refine lv_idiv hx hb d_MO_usesOf_71 (by decide) ?_
        refine lv_bipush (v := 16) hx hb d_MO_usesOf_72 (by decide) ?_
        refine lv_aload_n hx hb d_MO_usesOf_74 rfl (lv_at hl 0 rfl) ?_
        refine g_MO_branch hX t_417 hWd hv0 d_MO_usesOf_75 ?_
        have q1 := v_MO_branch hWd hv0
        refine lv_iload_n hx hb d_MO_usesOf_78 rfl (lv_at hl 3 rfl) ?_
        obtain ⟨j2, hj2, h⟩ := ob h
        refine r_iald hX hWd q1 hj2 d_MO_usesOf_79 ?_
        refine lv_imul hx hb d_MO_usesOf_80 ?_
        refine lv_iload hx hb d_MO_usesOf_81 (lv_at hl 5 rfl) ?_
        refine lv_iadd hx hb d_MO_usesOf_83 ?_
        refine lv_iload_n hx hb d_MO_usesOf_84 rfl (lv_at hl 1 rfl) ?_
        obtain ⟨q3, hq3, h⟩ := ob h
        refine kc_z (va_runV (As := [.int (v3 / 16), .int ((16 * (gi M (gr M v0 5) j2)) + v5), .int v1]) (rest := []) hX (m_MO_leads l  v0 (v3 / 16) ((16 * (gi M (gr M v0 5) j2)) + v5) v1 hv0 hq3) (cb_MO_leads hts t_608 ⟨Nat.le_of_ble_eq_true rfl, Nat.le_of_ble_eq_true rfl⟩) (pv_MO hWd hv0) rfl rfl hl.1 rfl (lv_room (Nat.le_of_ble_eq_true rfl)) d_MO_usesOf_85 ⟨Nat.zero_le _, Nat.zero_le _⟩) hWd (fun z4 H locs hWd => ?_)
        refine lv_if_eq (tgt := 97) hx hb d_MO_usesOf_88 (by decide) (fun hc => ?_) (fun hc => ?_)
        · replace h := ifP h hc
          refine lv_iload_n hx hb d_MO_usesOf_97 rfl (lv_at hl 2 rfl) ?_
          refine lv_istore_n (lv' := [(2, .int v2), (0, .ref v0), (1, .int v1), (3, .int v3), (4, .int v4), (5, .int v5)]) hx hb d_MO_usesOf_98 rfl hl (by decide) rfl (fun ls hl => ?_)
          refine lv_iinc (k := 5) (v := (v5 + 1)) (lv' := [(5, .int (v5 + 1)), (2, .int v2), (0, .ref v0), (1, .int v1), (3, .int v3), (4, .int v4)]) hx hb d_MO_usesOf_99 hl rfl (by rfl) (by decide) rfl (fun ls hl => ?_)
          refine lv_goto (tgt := 55) hx hb d_MO_usesOf_102 (by decide) ?_
          exact ih v0 v1 v2 v3 v4 (v5 + 1) M _ _ _ hv0 (lv_sub hl [2, 3, 1, 4, 5, 0] rfl) hWd h
        · replace h := ifN h hc
          refine lv_iload_n hx hb d_MO_usesOf_91 rfl (lv_at hl 2 rfl) ?_
          refine lv_iconst (v := 1) hx hb d_MO_usesOf_92 (by decide) ?_
          refine lv_iadd hx hb d_MO_usesOf_93 ?_
          refine lv_goto (tgt := 98) hx hb d_MO_usesOf_94 (by decide) ?_
          refine lv_istore_n (lv' := [(2, .int (v2 + 1)), (0, .ref v0), (1, .int v1), (3, .int v3), (4, .int v4), (5, .int v5)]) hx hb d_MO_usesOf_98 rfl hl (by decide) rfl (fun ls hl => ?_)
          refine lv_iinc (k := 5) (v := (v5 + 1)) (lv' := [(5, .int (v5 + 1)), (2, .int (v2 + 1)), (0, .ref v0), (1, .int v1), (3, .int v3), (4, .int v4)]) hx hb d_MO_usesOf_99 hl rfl (by rfl) (by decide) rfl (fun ls hl => ?_)
          refine lv_goto (tgt := 55) hx hb d_MO_usesOf_102 (by decide) ?_
          exact ih v0 v1 (v2 + 1) v3 v4 (v5 + 1) M _ _ _ hv0 (lv_sub hl [2, 3, 1, 4, 5, 0] rfl) hWd h
set_option maxHeartbeats 4000000 in
set_option maxRecDepth 100000 in
theorem w_MO_usesOf_39 {p : Program} {l : Launch} {e : Env} {s : State} {m : MethodId} {args : Array Value} {below : List Frame} {meth : Method} {c : Code} {E : En} {K G : Nat → Nat} {L : List Nat} (hX : CallFix p m c b_MO_usesOf 6 s args w_MO_usesOf "NibbleTrieModel") (hr : meth.sig.returnType = (some .int)) (hlk : meth.locks = false) {out : Int32} : ∀ (n : Nat) (v0 : Nat) (v1 : Int32) (v2 : Int32) (v3 : Int32) (M : Mm) (H : Heap) (locs : List Loc) (ls : Array Slot), K v0 = 9 → lv_has ls 6 [(0, .ref v0), (1, .int v1), (2, .int v2), (3, .int v3)] → Wd E K G L M s.heap H locs s → f_MO_usesOf_39 G n v0 v1 v2 v3 M = some out → W p l e rm_MO_usesOf s m args below meth c H locs 0 0 (MQ below (QI E K G L s.heap.size out M) args s 0 0 (AL L s.heap.size)) (F0 m 39 ls []) := by
  have hx := hX.1
  have hb := hX.2.1
  have hown := hX.2.2.2.1
  have hts := hX.2.2.2.2
  intro n
  induction n with
  | zero => intro _ _ _ _ _ _ _ _ _ _ _ h; rw [f_MO_usesOf_39] at h; cases h
  | succ n ih =>
    intro v0 v1 v2 v3 M H locs ls hv0 hl hWd h
    rw [f_MO_usesOf_39] at h
    refine lv_iload_n hx hb d_MO_usesOf_39 rfl (lv_at hl 3 rfl) ?_
    refine lv_bipush (v := 64) hx hb d_MO_usesOf_40 (by decide) ?_
    refine lv_icmp_ge (tgt := 111) hx hb d_MO_usesOf_42 (by decide) (fun hc => ?_) (fun hc => ?_)
    · replace h := ifP h hc
      refine lv_iload_n hx hb d_MO_usesOf_111 rfl (lv_at hl 2 rfl) ?_
      obtain rfl := Option.some.inj h
      exact e_iret hX hr hlk hWd d_MO_usesOf_112
    · replace h := ifN h hc
      refine lv_aload_n hx hb d_MO_usesOf_45 rfl (lv_at hl 0 rfl) ?_
      refine lv_iload_n hx hb d_MO_usesOf_46 rfl (lv_at hl 3 rfl) ?_
      obtain ⟨q1, hq1, h⟩ := ob h
      refine kc_z (va_runV (As := [.int v3]) (rest := []) hX (m_MO_stands l  v0 v3 hv0 hq1) (cb_MO_stands hts t_596 ⟨Nat.le_of_ble_eq_true rfl, Nat.le_of_ble_eq_true rfl⟩) (pv_MO hWd hv0) rfl rfl hl.1 rfl (lv_room (Nat.le_of_ble_eq_true rfl)) d_MO_usesOf_47 ⟨Nat.zero_le _, Nat.zero_le _⟩) hWd (fun z2 H locs hWd => ?_)
      refine lv_istore (lv' := [(4, .int q1), (0, .ref v0), (1, .int v1), (2, .int v2), (3, .int v3)]) hx hb d_MO_usesOf_50 hl (by decide) rfl (fun ls hl => ?_)
      refine lv_iconst (v := 0) hx hb d_MO_usesOf_52 (by decide) ?_
      refine lv_istore (lv' := [(5, .int 0), (4, .int q1), (0, .ref v0), (1, .int v1), (2, .int v2), (3, .int v3)]) hx hb d_MO_usesOf_53 hl (by decide) rfl (fun ls hl => ?_)
      exact w_MO_usesOf_55 hX hr hlk _ ih FU v0 v1 v2 v3 q1 0 M _ _ _ hv0 (lv_sub hl [2, 3, 4, 5, 1, 0] rfl) hWd h
set_option maxHeartbeats 4000000 in
set_option maxRecDepth 100000 in
theorem w_MO_usesOf_4 {p : Program} {l : Launch} {e : Env} {s : State} {m : MethodId} {args : Array Value} {below : List Frame} {meth : Method} {c : Code} {E : En} {K G : Nat → Nat} {L : List Nat} (hX : CallFix p m c b_MO_usesOf 6 s args w_MO_usesOf "NibbleTrieModel") (hr : meth.sig.returnType = (some .int)) (hlk : meth.locks = false) {out : Int32} : ∀ (n : Nat) (v0 : Nat) (v1 : Int32) (v2 : Int32) (v3 : Int32) (M : Mm) (H : Heap) (locs : List Loc) (ls : Array Slot), K v0 = 9 → lv_has ls 6 [(0, .ref v0), (1, .int v1), (2, .int v2), (3, .int v3)] → Wd E K G L M s.heap H locs s → f_MO_usesOf_4 G n v0 v1 v2 v3 M = some out → W p l e rm_MO_usesOf s m args below meth c H locs 0 0 (MQ below (QI E K G L s.heap.size out M) args s 0 0 (AL L s.heap.size)) (F0 m 4 ls []) := by
  have hx := hX.1
  have hb := hX.2.1
  have hown := hX.2.2.2.1
  have hts := hX.2.2.2.2
  intro n
  induction n with
  | zero => intro _ _ _ _ _ _ _ _ _ _ _ h; rw [f_MO_usesOf_4] at h; cases h
  | succ n ih =>
    intro v0 v1 v2 v3 M H locs ls hv0 hl hWd h
    rw [f_MO_usesOf_4] at h
    refine lv_iload_n hx hb d_MO_usesOf_4 rfl (lv_at hl 3 rfl) ?_
    refine lv_aload_n hx hb d_MO_usesOf_5 rfl (lv_at hl 0 rfl) ?_
    refine g_MO_kept hX t_415 hWd hv0 d_MO_usesOf_6 ?_
    refine lv_icmp_gt (tgt := 36) hx hb d_MO_usesOf_9 (by decide) (fun hc => ?_) (fun hc => ?_)
    · replace h := ifP h hc
      refine lv_bipush (v := 16) hx hb d_MO_usesOf_36 (by decide) ?_
      refine lv_istore_n (lv' := [(3, .int 16), (0, .ref v0), (1, .int v1), (2, .int v2)]) hx hb d_MO_usesOf_38 rfl hl (by decide) rfl (fun ls hl => ?_)
      exact w_MO_usesOf_39 hX hr hlk FU v0 v1 v2 16 M _ _ _ hv0 (lv_sub hl [1, 2, 3, 0] rfl) hWd h
    · replace h := ifN h hc
      refine lv_aload_n hx hb d_MO_usesOf_12 rfl (lv_at hl 0 rfl) ?_
      refine lv_iload_n hx hb d_MO_usesOf_13 rfl (lv_at hl 3 rfl) ?_
      refine lv_iconst (v := 1) hx hb d_MO_usesOf_14 (by decide) ?_
      refine lv_iload_n hx hb d_MO_usesOf_15 rfl (lv_at hl 1 rfl) ?_
      obtain ⟨q1, hq1, h⟩ := ob h
      refine kc_z (va_runV (As := [.int v3, .int 1, .int v1]) (rest := []) hX (m_MO_leads l  v0 v3 1 v1 hv0 hq1) (cb_MO_leads hts t_608 ⟨Nat.le_of_ble_eq_true rfl, Nat.le_of_ble_eq_true rfl⟩) (pv_MO hWd hv0) rfl rfl hl.1 rfl (lv_room (Nat.le_of_ble_eq_true rfl)) d_MO_usesOf_16 ⟨Nat.zero_le _, Nat.zero_le _⟩) hWd (fun z2 H locs hWd => ?_)
      refine lv_if_eq (tgt := 28) hx hb d_MO_usesOf_19 (by decide) (fun hc => ?_) (fun hc => ?_)
      · replace h := ifP h hc
        refine lv_iload_n hx hb d_MO_usesOf_28 rfl (lv_at hl 2 rfl) ?_
        refine lv_istore_n (lv' := [(2, .int v2), (0, .ref v0), (1, .int v1), (3, .int v3)]) hx hb d_MO_usesOf_29 rfl hl (by decide) rfl (fun ls hl => ?_)
        refine lv_iinc (k := 3) (v := (v3 + 1)) (lv' := [(3, .int (v3 + 1)), (2, .int v2), (0, .ref v0), (1, .int v1)]) hx hb d_MO_usesOf_30 hl rfl (by rfl) (by decide) rfl (fun ls hl => ?_)
        refine lv_goto (tgt := 4) hx hb d_MO_usesOf_33 (by decide) ?_
        exact ih v0 v1 v2 (v3 + 1) M _ _ _ hv0 (lv_sub hl [2, 3, 1, 0] rfl) hWd h
      · replace h := ifN h hc
        refine lv_iload_n hx hb d_MO_usesOf_22 rfl (lv_at hl 2 rfl) ?_
        refine lv_iconst (v := 1) hx hb d_MO_usesOf_23 (by decide) ?_
        refine lv_iadd hx hb d_MO_usesOf_24 ?_
        refine lv_goto (tgt := 29) hx hb d_MO_usesOf_25 (by decide) ?_
        refine lv_istore_n (lv' := [(2, .int (v2 + 1)), (0, .ref v0), (1, .int v1), (3, .int v3)]) hx hb d_MO_usesOf_29 rfl hl (by decide) rfl (fun ls hl => ?_)
        refine lv_iinc (k := 3) (v := (v3 + 1)) (lv' := [(3, .int (v3 + 1)), (2, .int (v2 + 1)), (0, .ref v0), (1, .int v1)]) hx hb d_MO_usesOf_30 hl rfl (by rfl) (by decide) rfl (fun ls hl => ?_)
        refine lv_goto (tgt := 4) hx hb d_MO_usesOf_33 (by decide) ?_
        exact ih v0 v1 (v2 + 1) (v3 + 1) M _ _ _ hv0 (lv_sub hl [2, 3, 1, 0] rfl) hWd h
set_option maxHeartbeats 4000000 in
set_option maxRecDepth 100000 in
theorem m_MO_usesOf (l : Launch) {E : En} {K G : Nat → Nat} {L : List Nat} {M : Mm} {sz : Nat} {out : Int32} (v0 : Nat) (v1 : Int32) (hv0 : K v0 = 9) (h : f_MO_usesOf G v0 v1 M = some out) : Met l y_MO_usesOf w_MO_usesOf rm_MO_usesOf (va_Pc [.ref v0, .int v1] (Wp E K G L M sz)) (QI E K G L sz out M) 0 0 (AL L sz) := by
  refine Met.ofW (cc := b_MO_usesOf) (maxL := 6) (ret := (some .int)) (by decide) rfl ?_
  intro p e s m av below meth c s₁ B hml hv
  obtain ⟨rfl, hWp⟩ := hv
  have hWd := Wd.start hWp
  obtain ⟨rfl, -⟩ := hWp
  have hX : CallFix p m c b_MO_usesOf 6 s _ w_MO_usesOf "NibbleTrieModel" := ⟨B.exec, B.bytes, hml, findClass_of_methodNamed B.named, atoms_spec (ws := w_MO_usesOf) B.pre⟩
  have hx := hX.1
  have hb := hX.2.1
  have hown := hX.2.2.2.1
  have hts := hX.2.2.2.2
  have hr := B.returns
  have hlk := B.notSynchronized
  have hl := lv_entry ([.ref v0, .int v1]) (n := 6) (Nat.le_of_ble_eq_true rfl)
  rw [lg_entry_eq]
  generalize (lg_sl ([.ref v0, .int v1]) ++ List.replicate (6 - (lg_sl ([.ref v0, .int v1])).length) Slot.unset).toArray = ls at hl ⊢
  have hl : lv_has ls 6 [(0, .ref v0), (1, .int v1)] := hl
  unfold f_MO_usesOf at h
  refine lv_iconst (v := 0) hx hb d_MO_usesOf_0 (by decide) ?_
  refine lv_istore_n (lv' := [(2, .int 0), (0, .ref v0), (1, .int v1)]) hx hb d_MO_usesOf_1 rfl hl (by decide) rfl (fun ls hl => ?_)
  refine lv_iconst (v := 1) hx hb d_MO_usesOf_2 (by decide) ?_
  refine lv_istore_n (lv' := [(3, .int 1), (2, .int 0), (0, .ref v0), (1, .int v1)]) hx hb d_MO_usesOf_3 rfl hl (by decide) rfl (fun ls hl => ?_)
  exact w_MO_usesOf_4 hX hr hlk FU v0 v1 0 1 M _ _ _ hv0 (lv_sub hl [2, 3, 1, 0] rfl) hWd h
set_option maxHeartbeats 4000000 in
set_option maxRecDepth 100000 in
theorem w_MO_uses_6 {p : Program} {l : Launch} {e : Env} {s : State} {m : MethodId} {args : Array Value} {below : List Frame} {meth : Method} {c : Code} {E : En} {K G : Nat → Nat} {L : List Nat} (hX : CallFix p m c b_MO_uses 5 s args w_MO_uses "NibbleTrieModel") (hr : meth.sig.returnType = (some .int)) (hlk : meth.locks = false) {out : Int32} : ∀ (n : Nat) (v0 : Nat) (v1 : Int64) (v3 : Int32) (v4 : Int32) (M : Mm) (H : Heap) (locs : List Loc) (ls : Array Slot), K v0 = 9 → lv_has ls 5 [(0, .ref v0), (1, .long v1), (3, .int v3), (4, .int v4)] → Wd E K G L M s.heap H locs s → f_MO_uses_6 G n v0 v1 v3 v4 M = some out → W p l e rm_MO_uses s m args below meth c H locs 0 0 (MQ below (QI E K G L s.heap.size out M) args s 0 0 (AL L s.heap.size)) (F0 m 6 ls []) := by
  have hx := hX.1
  have hb := hX.2.1
  have hown := hX.2.2.2.1
  have hts := hX.2.2.2.2
  intro n
  induction n with
  | zero => intro _ _ _ _ _ _ _ _ _ _ _ h; rw [f_MO_uses_6] at h; cases h
  | succ n ih =>
    intro v0 v1 v3 v4 M H locs ls hv0 hl hWd h
    rw [f_MO_uses_6] at h
    refine lv_iload hx hb d_MO_uses_6 (lv_at hl 3 rfl) ?_
    refine lv_bipush (v := 64) hx hb d_MO_uses_8 (by decide) ?_
    refine lv_icmp_ge (tgt := 49) hx hb d_MO_uses_10 (by decide) (fun hc => ?_) (fun hc => ?_)
    · replace h := ifP h hc
      refine lv_iload_n hx hb d_MO_uses_49 rfl (lv_at hl 2 rfl) ?_
      obtain rfl := Option.some.inj h
      exact e_iret hX hr hlk hWd d_MO_uses_50
    · replace h := ifN h hc
      refine lv_aload_n hx hb d_MO_uses_13 rfl (lv_at hl 0 rfl) ?_
      refine lv_iload hx hb d_MO_uses_14 (lv_at hl 3 rfl) ?_
      obtain ⟨q1, hq1, h⟩ := ob h
      refine kc_z (va_runV (As := [.int v4]) (rest := []) hX (m_MO_stands l  v0 v4 hv0 hq1) (cb_MO_stands hts t_596 ⟨Nat.le_of_ble_eq_true rfl, Nat.le_of_ble_eq_true rfl⟩) (pv_MO hWd hv0) rfl rfl hl.1 rfl (lv_room (Nat.le_of_ble_eq_true rfl)) d_MO_uses_16 ⟨Nat.zero_le _, Nat.zero_le _⟩) hWd (fun z2 H locs hWd => ?_)
      refine lv_if_eq (tgt := 43) hx hb d_MO_uses_19 (by decide) (fun hc => ?_) (fun hc => ?_)
      · replace h := ifP h hc
        refine lv_iinc (k := 3) (v := (v4 + 1)) (lv' := [(4, .int (v4 + 1)), (0, .ref v0), (1, .long v1), (3, .int v3)]) hx hb d_MO_uses_43 hl rfl (by rfl) (by decide) rfl (fun ls hl => ?_)
        refine lv_goto (tgt := 6) hx hb d_MO_uses_46 (by decide) ?_
        exact ih v0 v1 v3 (v4 + 1) M _ _ _ hv0 (lv_sub hl [1, 2, 3, 0] rfl) hWd h
      · replace h := ifN h hc
        refine lv_aload_n hx hb d_MO_uses_22 rfl (lv_at hl 0 rfl) ?_
        refine g_MO_digest hX t_418 hWd hv0 d_MO_uses_23 ?_
        have q3 := v_MO_digest hWd hv0
        refine lv_iload hx hb d_MO_uses_26 (lv_at hl 3 rfl) ?_
        obtain ⟨j4, hj4, h⟩ := ob h
        refine r_lald hX hWd q3 hj4 d_MO_uses_28 ?_
        refine lv_lload_n hx hb d_MO_uses_29 rfl (lv_at hl 1 rfl) ?_
        refine W.lcmp hx hb d_MO_uses_30 ?_
        refine lv_if_ne (tgt := 43) hx hb d_MO_uses_31 (by decide) (fun hc => ?_) (fun hc => ?_)
        · replace h := ifN h hc
          refine lv_iinc (k := 3) (v := (v4 + 1)) (lv' := [(4, .int (v4 + 1)), (0, .ref v0), (1, .long v1), (3, .int v3)]) hx hb d_MO_uses_43 hl rfl (by rfl) (by decide) rfl (fun ls hl => ?_)
          refine lv_goto (tgt := 6) hx hb d_MO_uses_46 (by decide) ?_
          exact ih v0 v1 v3 (v4 + 1) M _ _ _ hv0 (lv_sub hl [1, 2, 3, 0] rfl) hWd h
        · replace h := ifP h hc
          refine lv_iload_n hx hb d_MO_uses_34 rfl (lv_at hl 2 rfl) ?_
          refine lv_aload_n hx hb d_MO_uses_35 rfl (lv_at hl 0 rfl) ?_
          refine lv_iload hx hb d_MO_uses_36 (lv_at hl 3 rfl) ?_
          obtain ⟨q5, hq5, h⟩ := ob h
          refine kc_i (va_runV (As := [.int v4]) (rest := [.int v3]) hX (m_MO_usesOf l  v0 v4 hv0 hq5) (cb_MO_usesOf hts t_604 ⟨Nat.le_of_ble_eq_true rfl, Nat.le_of_ble_eq_true rfl⟩) (pv_MO hWd hv0) rfl rfl hl.1 rfl (lv_room (Nat.le_of_ble_eq_true rfl)) d_MO_uses_38 ⟨Nat.zero_le _, Nat.zero_le _⟩) hWd (fun H locs hWd => ?_)
          refine lv_iadd hx hb d_MO_uses_41 ?_
          refine lv_istore_n (lv' := [(3, .int (v3 + q5)), (0, .ref v0), (1, .long v1), (4, .int v4)]) hx hb d_MO_uses_42 rfl hl (by decide) rfl (fun ls hl => ?_)
          refine lv_iinc (k := 3) (v := (v4 + 1)) (lv' := [(4, .int (v4 + 1)), (3, .int (v3 + q5)), (0, .ref v0), (1, .long v1)]) hx hb d_MO_uses_43 hl rfl (by rfl) (by decide) rfl (fun ls hl => ?_)
          refine lv_goto (tgt := 6) hx hb d_MO_uses_46 (by decide) ?_
          exact ih v0 v1 (v3 + q5) (v4 + 1) M _ _ _ hv0 (lv_sub hl [2, 3, 1, 0] rfl) hWd h
set_option maxHeartbeats 4000000 in
set_option maxRecDepth 100000 in
theorem m_MO_uses (l : Launch) {E : En} {K G : Nat → Nat} {L : List Nat} {M : Mm} {sz : Nat} {out : Int32} (v0 : Nat) (v1 : Int64) (hv0 : K v0 = 9) (h : f_MO_uses G v0 v1 M = some out) : Met l y_MO_uses w_MO_uses rm_MO_uses (va_Pc [.ref v0, .long v1] (Wp E K G L M sz)) (QI E K G L sz out M) 0 0 (AL L sz) := by
  refine Met.ofW (cc := b_MO_uses) (maxL := 5) (ret := (some .int)) (by decide) rfl ?_
  intro p e s m av below meth c s₁ B hml hv
  obtain ⟨rfl, hWp⟩ := hv
  have hWd := Wd.start hWp
  obtain ⟨rfl, -⟩ := hWp
  have hX : CallFix p m c b_MO_uses 5 s _ w_MO_uses "NibbleTrieModel" := ⟨B.exec, B.bytes, hml, findClass_of_methodNamed B.named, atoms_spec (ws := w_MO_uses) B.pre⟩
  have hx := hX.1
  have hb := hX.2.1
  have hown := hX.2.2.2.1
  have hts := hX.2.2.2.2
  have hr := B.returns
  have hlk := B.notSynchronized
  have hl := lv_entry ([.ref v0, .long v1]) (n := 5) (Nat.le_of_ble_eq_true rfl)
  rw [lg_entry_eq]
  generalize (lg_sl ([.ref v0, .long v1]) ++ List.replicate (5 - (lg_sl ([.ref v0, .long v1])).length) Slot.unset).toArray = ls at hl ⊢
  have hl : lv_has ls 5 [(0, .ref v0), (1, .long v1)] := hl
  unfold f_MO_uses at h
  refine lv_iconst (v := 0) hx hb d_MO_uses_0 (by decide) ?_
  refine lv_istore_n (lv' := [(3, .int 0), (0, .ref v0), (1, .long v1)]) hx hb d_MO_uses_1 rfl hl (by decide) rfl (fun ls hl => ?_)
  refine lv_bipush (v := 16) hx hb d_MO_uses_2 (by decide) ?_
  refine lv_istore (lv' := [(4, .int 16), (3, .int 0), (0, .ref v0), (1, .long v1)]) hx hb d_MO_uses_4 hl (by decide) rfl (fun ls hl => ?_)
  exact w_MO_uses_6 hX hr hlk FU v0 v1 0 16 M _ _ _ hv0 (lv_sub hl [2, 3, 1, 0] rfl) hWd h
set_option maxHeartbeats 4000000 in
set_option maxRecDepth 100000 in
theorem w_MO_append_2 {p : Program} {l : Launch} {e : Env} {s : State} {m : MethodId} {args : Array Value} {below : List Frame} {meth : Method} {c : Code} {E : En} {K G : Nat → Nat} {L : List Nat} (hX : CallFix p m c b_MO_append 2 s args w_MO_append "NibbleTrieModel") (hr : meth.sig.returnType = none) (hlk : meth.locks = false) {out : Mm} : ∀ (n : Nat) (v0 : Nat) (v1 : Int32) (M : Mm) (H : Heap) (locs : List Loc) (ls : Array Slot), K v0 = 9 → lv_has ls 2 [(0, .ref v0), (1, .int v1)] → Wd E K G L M s.heap H locs s → f_MO_append_2 G n v0 v1 M = some out → W p l e rm_MO_append s m args below meth c H locs 0 0 (MQ below (QV E K G L s.heap.size out) args s 0 0 (AL L s.heap.size)) (F0 m 2 ls []) := by
  have hx := hX.1
  have hb := hX.2.1
  have hown := hX.2.2.2.1
  have hts := hX.2.2.2.2
  intro n
  induction n with
  | zero => intro _ _ _ _ _ _ _ _ _ h; rw [f_MO_append_2] at h; cases h
  | succ n ih =>
    intro v0 v1 M H locs ls hv0 hl hWd h
    rw [f_MO_append_2] at h
    refine lv_iload_n hx hb d_MO_append_2 rfl (lv_at hl 1 rfl) ?_
    refine lv_aload_n hx hb d_MO_append_3 rfl (lv_at hl 0 rfl) ?_
    refine g_MO_length hX t_421 hWd hv0 d_MO_append_4 ?_
    refine lv_icmp_ge (tgt := 41) hx hb d_MO_append_7 (by decide) (fun hc => ?_) (fun hc => ?_)
    · replace h := ifP h hc
      obtain rfl := Option.some.inj h
      exact e_vret hX hr hlk hWd d_MO_append_41
    · replace h := ifN h hc
      refine lv_aload_n hx hb d_MO_append_10 rfl (lv_at hl 0 rfl) ?_
      refine g_MO_proof hX t_422 hWd hv0 d_MO_append_11 ?_
      have q1 := v_MO_proof hWd hv0
      refine lv_aload_n hx hb d_MO_append_14 rfl (lv_at hl 0 rfl) ?_
      refine g_MO_proofLength hX t_423 hWd hv0 d_MO_append_15 ?_
      refine lv_aload_n hx hb d_MO_append_18 rfl (lv_at hl 0 rfl) ?_
      refine g_MO_words hX t_420 hWd hv0 d_MO_append_19 ?_
      have q2 := v_MO_words hWd hv0
      refine lv_iload_n hx hb d_MO_append_22 rfl (lv_at hl 1 rfl) ?_
      obtain ⟨j3, hj3, h⟩ := ob h
      refine r_lald hX hWd q2 hj3 d_MO_append_23 ?_
      obtain ⟨j4, hj4, h⟩ := ob h
      refine r_last hX hWd q1 hj4 d_MO_append_24 (fun H locs hWd => ?_)
      obtain ⟨M5, eM5, h⟩ := stE h
      rw [← eM5] at hWd
      refine lv_aload_n hx hb d_MO_append_25 rfl (lv_at hl 0 rfl) ?_
      refine lv_dup hx hb d_MO_append_26 rfl ?_
      refine g_MO_proofLength hX t_423 hWd hv0 d_MO_append_27 ?_
      refine lv_iconst (v := 1) hx hb d_MO_append_30 (by decide) ?_
      refine lv_iadd hx hb d_MO_append_31 ?_
      refine p_MO_proofLength hX t_423 hWd hv0 d_MO_append_32 (fun H locs hWd => ?_)
      obtain ⟨M6, eM6, h⟩ := stE h
      rw [← eM6] at hWd
      refine lv_iinc (k := 1) (v := (v1 + 1)) (lv' := [(1, .int (v1 + 1)), (0, .ref v0)]) hx hb d_MO_append_35 hl rfl (by rfl) (by decide) rfl (fun ls hl => ?_)
      refine lv_goto (tgt := 2) hx hb d_MO_append_38 (by decide) ?_
      exact ih v0 (v1 + 1) M6 _ _ _ hv0 (lv_sub hl [1, 0] rfl) hWd h
set_option maxHeartbeats 4000000 in
set_option maxRecDepth 100000 in
theorem m_MO_append (l : Launch) {E : En} {K G : Nat → Nat} {L : List Nat} {M : Mm} {sz : Nat} {out : Mm} (v0 : Nat) (hv0 : K v0 = 9) (h : f_MO_append G v0 M = some out) : Met l y_MO_append w_MO_append rm_MO_append (va_Pc [.ref v0] (Wp E K G L M sz)) (QV E K G L sz out) 0 0 (AL L sz) := by
  refine Met.ofW (cc := b_MO_append) (maxL := 2) (ret := none) (by decide) rfl ?_
  intro p e s m av below meth c s₁ B hml hv
  obtain ⟨rfl, hWp⟩ := hv
  have hWd := Wd.start hWp
  obtain ⟨rfl, -⟩ := hWp
  have hX : CallFix p m c b_MO_append 2 s _ w_MO_append "NibbleTrieModel" := ⟨B.exec, B.bytes, hml, findClass_of_methodNamed B.named, atoms_spec (ws := w_MO_append) B.pre⟩
  have hx := hX.1
  have hb := hX.2.1
  have hown := hX.2.2.2.1
  have hts := hX.2.2.2.2
  have hr := B.returns
  have hlk := B.notSynchronized
  have hl := lv_entry ([.ref v0]) (n := 2) (Nat.le_of_ble_eq_true rfl)
  rw [lg_entry_eq]
  generalize (lg_sl ([.ref v0]) ++ List.replicate (2 - (lg_sl ([.ref v0])).length) Slot.unset).toArray = ls at hl ⊢
  have hl : lv_has ls 2 [(0, .ref v0)] := hl
  unfold f_MO_append at h
  refine lv_iconst (v := 0) hx hb d_MO_append_0 (by decide) ?_
  refine lv_istore_n (lv' := [(1, .int 0), (0, .ref v0)]) hx hb d_MO_append_1 rfl hl (by decide) rfl (fun ls hl => ?_)
  exact w_MO_append_2 hX hr hlk FU v0 0 M _ _ _ hv0 (lv_sub hl [1, 0] rfl) hWd h
set_option maxHeartbeats 4000000 in
set_option maxRecDepth 100000 in
theorem w_MO_prove_45 {p : Program} {l : Launch} {e : Env} {s : State} {m : MethodId} {args : Array Value} {below : List Frame} {meth : Method} {c : Code} {E : En} {K G : Nat → Nat} {L : List Nat} (hX : CallFix p m c b_MO_prove 6 s args w_MO_prove "NibbleTrieModel") (hr : meth.sig.returnType = (some .int)) (hlk : meth.locks = false) {out : Int32 × Mm} : ∀ (n : Nat) (v0 : Nat) (v1 : Int32) (v2 : Int32) (v3 : Int32) (v4 : Int32) (M : Mm) (H : Heap) (locs : List Loc) (ls : Array Slot), K v0 = 9 → lv_has ls 6 [(0, .ref v0), (1, .int v1), (2, .int v2), (3, .int v3), (4, .int v4)] → Wd E K G L M s.heap H locs s → f_MO_prove_45 G n v0 v1 v2 v3 v4 M = some out → W p l e rm_MO_prove s m args below meth c H locs 0 0 (MQ below (QI E K G L s.heap.size out.1 out.2) args s 0 0 (AL L s.heap.size)) (F0 m 45 ls []) := by
  have hx := hX.1
  have hb := hX.2.1
  have hown := hX.2.2.2.1
  have hts := hX.2.2.2.2
  intro n
  induction n with
  | zero => intro _ _ _ _ _ _ _ _ _ _ _ _ h; rw [f_MO_prove_45] at h; cases h
  | succ n ih =>
    intro v0 v1 v2 v3 v4 M H locs ls hv0 hl hWd h
    rw [f_MO_prove_45] at h
    refine lv_iload hx hb d_MO_prove_45 (lv_at hl 4 rfl) ?_
    refine lv_iload_n hx hb d_MO_prove_47 rfl (lv_at hl 3 rfl) ?_
    refine lv_icmp_gt (tgt := 97) hx hb d_MO_prove_48 (by decide) (fun hc => ?_) (fun hc => ?_)
    · replace h := ifP h hc
      refine lv_aload_n hx hb d_MO_prove_97 rfl (lv_at hl 0 rfl) ?_
      refine g_MO_proofLength hX t_423 hWd hv0 d_MO_prove_98 ?_
      obtain rfl := Option.some.inj h
      exact e_iret hX hr hlk hWd d_MO_prove_101
    · replace h := ifN h hc
      refine lv_iload_n hx hb d_MO_prove_51 rfl (lv_at hl 2 rfl) ?_
      refine lv_iconst (v := 4) hx hb d_MO_prove_52 (by decide) ?_
      refine lv_iload_n hx hb d_MO_prove_53 rfl (lv_at hl 3 rfl) ?_
      refine lv_iload hx hb d_MO_prove_54 (lv_at hl 4 rfl) ?_
      refine lv_isub hx hb d_MO_prove_56 ?_
      refine lv_imul hx hb d_MO_prove_57 ?_
      refine lv_ishr hx hb d_MO_prove_58 ?_
      refine lv_topi (fun x1 ex1 => ?_)
      replace h := stA h ex1
      refine lv_istore (lv' := [(5, .int x1), (0, .ref v0), (1, .int v1), (2, .int v2), (3, .int v3), (4, .int v4)]) hx hb d_MO_prove_59 hl (by decide) rfl (fun ls hl => ?_)
      refine lv_aload_n hx hb d_MO_prove_61 rfl (lv_at hl 1 rfl) ?_
      refine lv_iload_n hx hb d_MO_prove_62 rfl (lv_at hl 2 rfl) ?_
      refine lv_iconst (v := 1) hx hb d_MO_prove_63 (by decide) ?_
      refine lv_iadd hx hb d_MO_prove_64 ?_
      refine lv_iload hx hb d_MO_prove_65 (lv_at hl 0 rfl) ?_
      obtain ⟨q2, hq2, h⟩ := ob h
      refine kc_i (va_runV (As := [.int (v1 + 1), .int x1]) (rest := []) hX (m_MO_place l  v0 (v1 + 1) x1 hv0 hq2) (cb_MO_place hts t_497 ⟨Nat.le_of_ble_eq_true rfl, Nat.le_of_ble_eq_true rfl⟩) (pv_MO hWd hv0) rfl rfl hl.1 rfl (lv_room (Nat.le_of_ble_eq_true rfl)) d_MO_prove_67 ⟨Nat.zero_le _, Nat.zero_le _⟩) hWd (fun H locs hWd => ?_)
      refine lv_if_lt (tgt := 91) hx hb d_MO_prove_70 (by decide) (fun hc => ?_) (fun hc => ?_)
      · replace h := ifP h hc
        refine lv_iinc (k := 5) (v := (v4 + 1)) (lv' := [(4, .int (v4 + 1)), (5, .int x1), (0, .ref v0), (1, .int v1), (2, .int v2), (3, .int v3)]) hx hb d_MO_prove_91 hl rfl (by rfl) (by decide) rfl (fun ls hl => ?_)
        refine lv_goto (tgt := 45) hx hb d_MO_prove_94 (by decide) ?_
        exact ih v0 v1 v2 v3 (v4 + 1) M _ _ _ hv0 (lv_sub hl [2, 3, 4, 5, 0] rfl) hWd h
      · replace h := ifN h hc
        refine lv_aload_n hx hb d_MO_prove_73 rfl (lv_at hl 1 rfl) ?_
        refine lv_iconst (v := 0) hx hb d_MO_prove_74 (by decide) ?_
        refine p_MO_length hX t_421 hWd hv0 d_MO_prove_75 (fun H locs hWd => ?_)
        obtain ⟨M3, eM3, h⟩ := stE h
        rw [← eM3] at hWd
        refine lv_aload_n hx hb d_MO_prove_78 rfl (lv_at hl 1 rfl) ?_
        refine lv_iload_n hx hb d_MO_prove_79 rfl (lv_at hl 2 rfl) ?_
        refine lv_iconst (v := 1) hx hb d_MO_prove_80 (by decide) ?_
        refine lv_iadd hx hb d_MO_prove_81 ?_
        refine lv_iload hx hb d_MO_prove_82 (lv_at hl 0 rfl) ?_
        obtain ⟨q4, hq4, h⟩ := ob h
        refine kc_v (va_runV (As := [.int (v1 + 1), .int x1]) (rest := []) hX (m_MO_encode l  v0 (v1 + 1) x1 hv0 hq4) (cb_MO_encode hts t_520 ⟨Nat.le_of_ble_eq_true rfl, Nat.le_of_ble_eq_true rfl⟩) (pv_MO hWd hv0) rfl rfl hl.1 rfl (lv_room (Nat.le_of_ble_eq_true rfl)) d_MO_prove_84 ⟨Nat.zero_le _, Nat.zero_le _⟩) hWd (fun H locs hWd => ?_)
        refine lv_aload_n hx hb d_MO_prove_87 rfl (lv_at hl 1 rfl) ?_
        obtain ⟨q5, hq5, h⟩ := ob h
        refine kc_v (va_runV (As := []) (rest := []) hX (m_MO_append l  v0 hv0 hq5) (cb_MO_append hts t_616 ⟨Nat.le_of_ble_eq_true rfl, Nat.le_of_ble_eq_true rfl⟩) (pv_MO hWd hv0) rfl rfl hl.1 rfl (lv_room (Nat.le_of_ble_eq_true rfl)) d_MO_prove_88 ⟨Nat.zero_le _, Nat.zero_le _⟩) hWd (fun H locs hWd => ?_)
        refine lv_iinc (k := 5) (v := (v4 + 1)) (lv' := [(4, .int (v4 + 1)), (5, .int x1), (0, .ref v0), (1, .int v1), (2, .int v2), (3, .int v3)]) hx hb d_MO_prove_91 hl rfl (by rfl) (by decide) rfl (fun ls hl => ?_)
        refine lv_goto (tgt := 45) hx hb d_MO_prove_94 (by decide) ?_
        exact ih v0 v1 v2 v3 (v4 + 1) q5 _ _ _ hv0 (lv_sub hl [2, 3, 4, 5, 0] rfl) hWd h
set_option maxHeartbeats 4000000 in
set_option maxRecDepth 100000 in
theorem m_MO_prove (l : Launch) {E : En} {K G : Nat → Nat} {L : List Nat} {M : Mm} {sz : Nat} {out : Int32 × Mm} (v0 : Nat) (v1 : Int32) (v2 : Int32) (hv0 : K v0 = 9) (h : f_MO_prove G v0 v1 v2 M = some out) : Met l y_MO_prove w_MO_prove rm_MO_prove (va_Pc [.ref v0, .int v1, .int v2] (Wp E K G L M sz)) (QI E K G L sz out.1 out.2) 0 0 (AL L sz) := by
  refine Met.ofW (cc := b_MO_prove) (maxL := 6) (ret := (some .int)) (by decide) rfl ?_
  intro p e s m av below meth c s₁ B hml hv
  obtain ⟨rfl, hWp⟩ := hv
  have hWd := Wd.start hWp
  obtain ⟨rfl, -⟩ := hWp
  have hX : CallFix p m c b_MO_prove 6 s _ w_MO_prove "NibbleTrieModel" := ⟨B.exec, B.bytes, hml, findClass_of_methodNamed B.named, atoms_spec (ws := w_MO_prove) B.pre⟩
  have hx := hX.1
  have hb := hX.2.1
  have hown := hX.2.2.2.1
  have hts := hX.2.2.2.2
  have hr := B.returns
  have hlk := B.notSynchronized
  have hl := lv_entry ([.ref v0, .int v1, .int v2]) (n := 6) (Nat.le_of_ble_eq_true rfl)
  rw [lg_entry_eq]
  generalize (lg_sl ([.ref v0, .int v1, .int v2]) ++ List.replicate (6 - (lg_sl ([.ref v0, .int v1, .int v2])).length) Slot.unset).toArray = ls at hl ⊢
  have hl : lv_has ls 6 [(0, .ref v0), (1, .int v1), (2, .int v2)] := hl
  unfold f_MO_prove at h
  refine lv_iload_n hx hb d_MO_prove_0 rfl (lv_at hl 2 rfl) ?_
  refine kp_i (va_runS (As := [.int v2]) (rest := []) hX (m_MO_nibbles l  v2 rfl) (cb_MO_nibbles hts t_468 ⟨Nat.le_of_ble_eq_true rfl, Nat.le_of_ble_eq_true rfl⟩) preEq rfl rfl hl.1 rfl (lv_room (Nat.le_of_ble_eq_true rfl)) d_MO_prove_1 ⟨Nat.zero_le _, Nat.zero_le _⟩) ?_
  refine lv_istore_n (lv' := [(3, .int (f_MO_nibbles v2)), (0, .ref v0), (1, .int v1), (2, .int v2)]) hx hb d_MO_prove_4 rfl hl (by decide) rfl (fun ls hl => ?_)
  refine lv_aload_n hx hb d_MO_prove_5 rfl (lv_at hl 1 rfl) ?_
  refine lv_iload_n hx hb d_MO_prove_6 rfl (lv_at hl 2 rfl) ?_
  refine kc_z (va_runV (As := [.int v1]) (rest := []) hX (m_MO_isVersion l  v0 v1 hv0 rfl) (cb_MO_isVersion hts t_584 ⟨Nat.le_of_ble_eq_true rfl, Nat.le_of_ble_eq_true rfl⟩) (pv_MO hWd hv0) rfl rfl hl.1 rfl (lv_room (Nat.le_of_ble_eq_true rfl)) d_MO_prove_7 ⟨Nat.zero_le _, Nat.zero_le _⟩) hWd (fun z1 H locs hWd => ?_)
  refine lv_if_eq (tgt := 17) hx hb d_MO_prove_10 (by decide) (fun hc => ?_) (fun hc => ?_)
  · replace h := ifP h hc
    refine lv_iconst (v := (-1)) hx hb d_MO_prove_17 (by decide) ?_
    obtain rfl := Option.some.inj h
    exact e_iret hX hr hlk hWd d_MO_prove_18
  · replace h := ifN h hc
    refine lv_iload_n hx hb d_MO_prove_13 rfl (lv_at hl 0 rfl) ?_
    refine lv_if_ge (tgt := 19) hx hb d_MO_prove_14 (by decide) (fun hc => ?_) (fun hc => ?_)
    · replace h := ifP h hc
      refine lv_aload_n hx hb d_MO_prove_19 rfl (lv_at hl 1 rfl) ?_
      refine lv_iconst (v := 0) hx hb d_MO_prove_20 (by decide) ?_
      refine p_MO_proofLength hX t_423 hWd hv0 d_MO_prove_21 (fun H locs hWd => ?_)
      obtain ⟨M2, eM2, h⟩ := stE h
      rw [← eM2] at hWd
      refine lv_aload_n hx hb d_MO_prove_24 rfl (lv_at hl 1 rfl) ?_
      refine lv_iconst (v := 0) hx hb d_MO_prove_25 (by decide) ?_
      refine p_MO_length hX t_421 hWd hv0 d_MO_prove_26 (fun H locs hWd => ?_)
      obtain ⟨M3, eM3, h⟩ := stE h
      rw [← eM3] at hWd
      refine lv_aload_n hx hb d_MO_prove_29 rfl (lv_at hl 1 rfl) ?_
      refine lv_iload_n hx hb d_MO_prove_30 rfl (lv_at hl 2 rfl) ?_
      refine lv_iconst (v := 1) hx hb d_MO_prove_31 (by decide) ?_
      refine lv_iadd hx hb d_MO_prove_32 ?_
      refine lv_iconst (v := 1) hx hb d_MO_prove_33 (by decide) ?_
      refine lv_iconst (v := 1) hx hb d_MO_prove_34 (by decide) ?_
      obtain ⟨q4, hq4, h⟩ := ob h
      refine kc_v (va_runV (As := [.int (v1 + 1), .int 1, .int 1]) (rest := []) hX (m_MO_reference l  v0 (v1 + 1) 1 1 hv0 hq4) (cb_MO_reference hts t_524 ⟨Nat.le_of_ble_eq_true rfl, Nat.le_of_ble_eq_true rfl⟩) (pv_MO hWd hv0) rfl rfl hl.1 rfl (lv_room (Nat.le_of_ble_eq_true rfl)) d_MO_prove_35 ⟨Nat.zero_le _, Nat.zero_le _⟩) hWd (fun H locs hWd => ?_)
      refine lv_aload_n hx hb d_MO_prove_38 rfl (lv_at hl 1 rfl) ?_
      obtain ⟨q5, hq5, h⟩ := ob h
      refine kc_v (va_runV (As := []) (rest := []) hX (m_MO_append l  v0 hv0 hq5) (cb_MO_append hts t_616 ⟨Nat.le_of_ble_eq_true rfl, Nat.le_of_ble_eq_true rfl⟩) (pv_MO hWd hv0) rfl rfl hl.1 rfl (lv_room (Nat.le_of_ble_eq_true rfl)) d_MO_prove_39 ⟨Nat.zero_le _, Nat.zero_le _⟩) hWd (fun H locs hWd => ?_)
      refine lv_iconst (v := 0) hx hb d_MO_prove_42 (by decide) ?_
      refine lv_istore (lv' := [(4, .int 0), (3, .int (f_MO_nibbles v2)), (0, .ref v0), (1, .int v1), (2, .int v2)]) hx hb d_MO_prove_43 hl (by decide) rfl (fun ls hl => ?_)
      exact w_MO_prove_45 hX hr hlk FU v0 v1 v2 (f_MO_nibbles v2) 0 q5 _ _ _ hv0 (lv_sub hl [2, 3, 4, 1, 0] rfl) hWd h
    · replace h := ifN h hc
      refine lv_iconst (v := (-1)) hx hb d_MO_prove_17 (by decide) ?_
      obtain rfl := Option.some.inj h
      exact e_iret hX hr hlk hWd d_MO_prove_18
set_option maxHeartbeats 4000000 in
set_option maxRecDepth 100000 in
theorem m_MO_word (l : Launch) {E : En} {K G : Nat → Nat} {L : List Nat} {M : Mm} {sz : Nat} {out : Int64} (v0 : Nat) (v1 : Int32) (hv0 : K v0 = 9) (h : f_MO_word G v0 v1 M = some out) : Met l y_MO_word w_MO_word rm_MO_word (va_Pc [.ref v0, .int v1] (Wp E K G L M sz)) (QL E K G L sz out M) 0 0 (AL L sz) := by
  refine Met.ofW (cc := b_MO_word) (maxL := 2) (ret := (some .long)) (by decide) rfl ?_
  intro p e s m av below meth c s₁ B hml hv
  obtain ⟨rfl, hWp⟩ := hv
  have hWd := Wd.start hWp
  obtain ⟨rfl, -⟩ := hWp
  have hX : CallFix p m c b_MO_word 2 s _ w_MO_word "NibbleTrieModel" := ⟨B.exec, B.bytes, hml, findClass_of_methodNamed B.named, atoms_spec (ws := w_MO_word) B.pre⟩
  have hx := hX.1
  have hb := hX.2.1
  have hown := hX.2.2.2.1
  have hts := hX.2.2.2.2
  have hr := B.returns
  have hlk := B.notSynchronized
  have hl := lv_entry ([.ref v0, .int v1]) (n := 2) (Nat.le_of_ble_eq_true rfl)
  rw [lg_entry_eq]
  generalize (lg_sl ([.ref v0, .int v1]) ++ List.replicate (2 - (lg_sl ([.ref v0, .int v1])).length) Slot.unset).toArray = ls at hl ⊢
  have hl : lv_has ls 2 [(0, .ref v0), (1, .int v1)] := hl
  unfold f_MO_word at h
  refine lv_iload_n hx hb d_MO_word_0 rfl (lv_at hl 1 rfl) ?_
  refine lv_if_lt (tgt := 21) hx hb d_MO_word_1 (by decide) (fun hc => ?_) (fun hc => ?_)
  · replace h := ifP h hc
    refine lv_lconst (v := 0) hx hb d_MO_word_21 (by decide) ?_
    obtain rfl := Option.some.inj h
    exact e_lret hX hr hlk hWd d_MO_word_22
  · replace h := ifN h hc
    refine lv_iload_n hx hb d_MO_word_4 rfl (lv_at hl 1 rfl) ?_
    refine lv_aload_n hx hb d_MO_word_5 rfl (lv_at hl 0 rfl) ?_
    refine g_MO_proofLength hX t_423 hWd hv0 d_MO_word_6 ?_
    refine lv_icmp_ge (tgt := 21) hx hb d_MO_word_9 (by decide) (fun hc => ?_) (fun hc => ?_)
    · replace h := ifP h hc
      refine lv_lconst (v := 0) hx hb d_MO_word_21 (by decide) ?_
      obtain rfl := Option.some.inj h
      exact e_lret hX hr hlk hWd d_MO_word_22
    · replace h := ifN h hc
      refine lv_aload_n hx hb d_MO_word_12 rfl (lv_at hl 0 rfl) ?_
      refine g_MO_proof hX t_422 hWd hv0 d_MO_word_13 ?_
      have q1 := v_MO_proof hWd hv0
      refine lv_iload_n hx hb d_MO_word_16 rfl (lv_at hl 1 rfl) ?_
      obtain ⟨j2, hj2, h⟩ := ob h
      refine r_lald hX hWd q1 hj2 d_MO_word_17 ?_
      refine lv_goto (tgt := 22) hx hb d_MO_word_18 (by decide) ?_
      obtain rfl := Option.some.inj h
      exact e_lret hX hr hlk hWd d_MO_word_22
set_option maxHeartbeats 4000000 in
set_option maxRecDepth 100000 in
theorem m_MO_alter (l : Launch) {E : En} {K G : Nat → Nat} {L : List Nat} {M : Mm} {sz : Nat} {out : Int32 × Mm} (v0 : Nat) (v1 : Int32) (v2 : Int64) (hv0 : K v0 = 9) (h : f_MO_alter G v0 v1 v2 M = some out) : Met l y_MO_alter w_MO_alter rm_MO_alter (va_Pc [.ref v0, .int v1, .long v2] (Wp E K G L M sz)) (QZ E K G L sz out.1 out.2) 0 0 (AL L sz) := by
  refine Met.ofW (cc := b_MO_alter) (maxL := 4) (ret := (some .boolean)) (by decide) rfl ?_
  intro p e s m av below meth c s₁ B hml hv
  obtain ⟨rfl, hWp⟩ := hv
  have hWd := Wd.start hWp
  obtain ⟨rfl, -⟩ := hWp
  have hX : CallFix p m c b_MO_alter 4 s _ w_MO_alter "NibbleTrieModel" := ⟨B.exec, B.bytes, hml, findClass_of_methodNamed B.named, atoms_spec (ws := w_MO_alter) B.pre⟩
  have hx := hX.1
  have hb := hX.2.1
  have hown := hX.2.2.2.1
  have hts := hX.2.2.2.2
  have hr := B.returns
  have hlk := B.notSynchronized
  have hl := lv_entry ([.ref v0, .int v1, .long v2]) (n := 4) (Nat.le_of_ble_eq_true rfl)
  rw [lg_entry_eq]
  generalize (lg_sl ([.ref v0, .int v1, .long v2]) ++ List.replicate (4 - (lg_sl ([.ref v0, .int v1, .long v2])).length) Slot.unset).toArray = ls at hl ⊢
  have hl : lv_has ls 4 [(0, .ref v0), (1, .int v1), (2, .long v2)] := hl
  unfold f_MO_alter at h
  refine lv_iload_n hx hb d_MO_alter_0 rfl (lv_at hl 1 rfl) ?_
  refine lv_if_lt (tgt := 12) hx hb d_MO_alter_1 (by decide) (fun hc => ?_) (fun hc => ?_)
  · replace h := ifP h hc
    refine lv_iconst (v := 0) hx hb d_MO_alter_12 (by decide) ?_
    obtain rfl := Option.some.inj h
    exact e_zret hX hr hlk hWd (Or.inl rfl) d_MO_alter_13
  · replace h := ifN h hc
    refine lv_iload_n hx hb d_MO_alter_4 rfl (lv_at hl 1 rfl) ?_
    refine lv_aload_n hx hb d_MO_alter_5 rfl (lv_at hl 0 rfl) ?_
    refine g_MO_proofLength hX t_423 hWd hv0 d_MO_alter_6 ?_
    refine lv_icmp_lt (tgt := 14) hx hb d_MO_alter_9 (by decide) (fun hc => ?_) (fun hc => ?_)
    · replace h := ifP h hc
      refine lv_aload_n hx hb d_MO_alter_14 rfl (lv_at hl 0 rfl) ?_
      refine g_MO_proof hX t_422 hWd hv0 d_MO_alter_15 ?_
      have q1 := v_MO_proof hWd hv0
      refine lv_iload_n hx hb d_MO_alter_18 rfl (lv_at hl 1 rfl) ?_
      refine lv_lload_n hx hb d_MO_alter_19 rfl (lv_at hl 2 rfl) ?_
      obtain ⟨j2, hj2, h⟩ := ob h
      refine r_last hX hWd q1 hj2 d_MO_alter_20 (fun H locs hWd => ?_)
      obtain ⟨M3, eM3, h⟩ := stE h
      rw [← eM3] at hWd
      refine lv_iconst (v := 1) hx hb d_MO_alter_21 (by decide) ?_
      obtain rfl := Option.some.inj h
      exact e_zret hX hr hlk hWd (Or.inr rfl) d_MO_alter_22
    · replace h := ifN h hc
      refine lv_iconst (v := 0) hx hb d_MO_alter_12 (by decide) ?_
      obtain rfl := Option.some.inj h
      exact e_zret hX hr hlk hWd (Or.inl rfl) d_MO_alter_13
set_option maxHeartbeats 4000000 in
set_option maxRecDepth 100000 in
theorem m_MO_cut (l : Launch) {E : En} {K G : Nat → Nat} {L : List Nat} {M : Mm} {sz : Nat} {out : Int32 × Mm} (v0 : Nat) (hv0 : K v0 = 9) (h : f_MO_cut G v0 M = out) : Met l y_MO_cut w_MO_cut rm_MO_cut (va_Pc [.ref v0] (Wp E K G L M sz)) (QI E K G L sz out.1 out.2) 0 0 (AL L sz) := by
  refine Met.ofW (cc := b_MO_cut) (maxL := 1) (ret := (some .int)) (by decide) rfl ?_
  intro p e s m av below meth c s₁ B hml hv
  obtain ⟨rfl, hWp⟩ := hv
  have hWd := Wd.start hWp
  obtain ⟨rfl, -⟩ := hWp
  have hX : CallFix p m c b_MO_cut 1 s _ w_MO_cut "NibbleTrieModel" := ⟨B.exec, B.bytes, hml, findClass_of_methodNamed B.named, atoms_spec (ws := w_MO_cut) B.pre⟩
  have hx := hX.1
  have hb := hX.2.1
  have hown := hX.2.2.2.1
  have hts := hX.2.2.2.2
  have hr := B.returns
  have hlk := B.notSynchronized
  have hl := lv_entry ([.ref v0]) (n := 1) (Nat.le_of_ble_eq_true rfl)
  rw [lg_entry_eq]
  generalize (lg_sl ([.ref v0]) ++ List.replicate (1 - (lg_sl ([.ref v0])).length) Slot.unset).toArray = ls at hl ⊢
  have hl : lv_has ls 1 [(0, .ref v0)] := hl
  unfold f_MO_cut at h
  refine lv_aload_n hx hb d_MO_cut_0 rfl (lv_at hl 0 rfl) ?_
  refine lv_aload_n hx hb d_MO_cut_1 rfl (lv_at hl 0 rfl) ?_
  refine g_MO_proofLength hX t_423 hWd hv0 d_MO_cut_2 ?_
  refine lv_if_ne (tgt := 12) hx hb d_MO_cut_5 (by decide) (fun hc => ?_) (fun hc => ?_)
  · replace h := ifN h hc
    refine lv_aload_n hx hb d_MO_cut_12 rfl (lv_at hl 0 rfl) ?_
    refine g_MO_proofLength hX t_423 hWd hv0 d_MO_cut_13 ?_
    refine lv_iconst (v := 1) hx hb d_MO_cut_16 (by decide) ?_
    refine lv_isub hx hb d_MO_cut_17 ?_
    refine p_MO_proofLength hX t_423 hWd hv0 d_MO_cut_18 (fun H locs hWd => ?_)
    obtain ⟨M1, eM1, h⟩ := stE h
    rw [← eM1] at hWd
    refine lv_aload_n hx hb d_MO_cut_21 rfl (lv_at hl 0 rfl) ?_
    refine g_MO_proofLength hX t_423 hWd hv0 d_MO_cut_22 ?_
    subst h
    exact e_iret hX hr hlk hWd d_MO_cut_25
  · replace h := ifP h hc
    refine lv_iconst (v := 0) hx hb d_MO_cut_8 (by decide) ?_
    refine lv_goto (tgt := 18) hx hb d_MO_cut_9 (by decide) ?_
    refine p_MO_proofLength hX t_423 hWd hv0 d_MO_cut_18 (fun H locs hWd => ?_)
    obtain ⟨M2, eM2, h⟩ := stE h
    rw [← eM2] at hWd
    refine lv_aload_n hx hb d_MO_cut_21 rfl (lv_at hl 0 rfl) ?_
    refine g_MO_proofLength hX t_423 hWd hv0 d_MO_cut_22 ?_
    subst h
    exact e_iret hX hr hlk hWd d_MO_cut_25
set_option maxHeartbeats 4000000 in
set_option maxRecDepth 100000 in
theorem m_MO_few (l : Launch) {out : Int32} (v0 : Int64) (h : f_MO_few v0 = out) : Met l y_MO_few w_MO_few rm_MO_few (fun v _ => v = [.long v0].toArray) (PZ out) 0 0 (fun _ => False) := by
  refine Met.ofW (cc := b_MO_few) (maxL := 2) (ret := (some .boolean)) (by decide) rfl ?_
  intro p e s m av below meth c s₁ B hml hv
  subst hv
  have hX : CallFix p m c b_MO_few 2 s _ w_MO_few "NibbleTrieModel" := ⟨B.exec, B.bytes, hml, findClass_of_methodNamed B.named, atoms_spec (ws := w_MO_few) B.pre⟩
  have hx := hX.1
  have hb := hX.2.1
  have hown := hX.2.2.2.1
  have hts := hX.2.2.2.2
  have hr := B.returns
  have hlk := B.notSynchronized
  have hl := lv_entry ([.long v0]) (n := 2) (Nat.le_of_ble_eq_true rfl)
  rw [lg_entry_eq]
  generalize (lg_sl ([.long v0]) ++ List.replicate (2 - (lg_sl ([.long v0])).length) Slot.unset).toArray = ls at hl ⊢
  have hl : lv_has ls 2 [(0, .long v0)] := hl
  unfold f_MO_few at h
  refine lv_lload_n hx hb d_MO_few_0 rfl (lv_at hl 0 rfl) ?_
  refine lv_lconst (v := 0) hx hb d_MO_few_1 (by decide) ?_
  refine W.lcmp hx hb d_MO_few_2 ?_
  refine lv_if_lt (tgt := 18) hx hb d_MO_few_3 (by decide) (fun hc => ?_) (fun hc => ?_)
  · replace h := ifP h hc
    refine lv_iconst (v := 0) hx hb d_MO_few_18 (by decide) ?_
    subst h
    exact p_zret hX hr hlk (Or.inl rfl) d_MO_few_19
  · replace h := ifN h hc
    refine lv_lload_n hx hb d_MO_few_6 rfl (lv_at hl 0 rfl) ?_
    refine lv_ldc2 (v := 2) hx hb hown (hts _ (List.mem_cons_of_mem _ t_532)) d_MO_few_7 ?_
    refine W.lcmp hx hb d_MO_few_10 ?_
    refine lv_if_gt (tgt := 18) hx hb d_MO_few_11 (by decide) (fun hc => ?_) (fun hc => ?_)
    · replace h := ifP h hc
      refine lv_iconst (v := 0) hx hb d_MO_few_18 (by decide) ?_
      subst h
      exact p_zret hX hr hlk (Or.inl rfl) d_MO_few_19
    · replace h := ifN h hc
      refine lv_iconst (v := 1) hx hb d_MO_few_14 (by decide) ?_
      refine lv_goto (tgt := 19) hx hb d_MO_few_15 (by decide) ?_
      subst h
      exact p_zret hX hr hlk (Or.inr rfl) d_MO_few_19
set_option maxHeartbeats 4000000 in
set_option maxRecDepth 100000 in
theorem w_MO_digestOf_8 {p : Program} {l : Launch} {e : Env} {s : State} {m : MethodId} {args : Array Value} {below : List Frame} {meth : Method} {c : Code} {E : En} {K G : Nat → Nat} {L : List Nat} (hX : CallFix p m c b_MO_digestOf 6 s args w_MO_digestOf "NibbleTrieModel") (hr : meth.sig.returnType = (some .long)) (hlk : meth.locks = false) {out : Int64} : ∀ (n : Nat) (v0 : Nat) (v2 : Int32) (v3 : Int64) (v5 : Int32) (M : Mm) (H : Heap) (locs : List Loc) (ls : Array Slot), K v0 = 9 → lv_has ls 6 [(0, .ref v0), (2, .int v2), (3, .long v3), (5, .int v5)] → Wd E K G L M s.heap H locs s → f_MO_digestOf_8 G n v0 v2 v3 v5 M = some out → W p l e rm_MO_digestOf s m args below meth c H locs 0 0 (MQ below (QL E K G L s.heap.size out M) args s 0 0 (AL L s.heap.size)) (F0 m 8 ls []) := by
  have hx := hX.1
  have hb := hX.2.1
  have hown := hX.2.2.2.1
  have hts := hX.2.2.2.2
  intro n
  induction n with
  | zero => intro _ _ _ _ _ _ _ _ _ _ _ h; rw [f_MO_digestOf_8] at h; cases h
  | succ n ih =>
    intro v0 v2 v3 v5 M H locs ls hv0 hl hWd h
    rw [f_MO_digestOf_8] at h
    refine lv_iload hx hb d_MO_digestOf_8 (lv_at hl 3 rfl) ?_
    refine lv_iload_n hx hb d_MO_digestOf_10 rfl (lv_at hl 1 rfl) ?_
    refine lv_icmp_ge (tgt := 32) hx hb d_MO_digestOf_11 (by decide) (fun hc => ?_) (fun hc => ?_)
    · replace h := ifP h hc
      refine lv_lload_n hx hb d_MO_digestOf_32 rfl (lv_at hl 2 rfl) ?_
      obtain rfl := Option.some.inj h
      exact e_lret hX hr hlk hWd d_MO_digestOf_33
    · replace h := ifN h hc
      refine lv_lload_n hx hb d_MO_digestOf_14 rfl (lv_at hl 2 rfl) ?_
      refine lv_aload_n hx hb d_MO_digestOf_15 rfl (lv_at hl 0 rfl) ?_
      refine g_MO_proof hX t_422 hWd hv0 d_MO_digestOf_16 ?_
      have q1 := v_MO_proof hWd hv0
      refine lv_iload hx hb d_MO_digestOf_19 (lv_at hl 3 rfl) ?_
      obtain ⟨j2, hj2, h⟩ := ob h
      refine r_lald hX hWd q1 hj2 d_MO_digestOf_21 ?_
      refine kp_l (va_runS (As := [.long v3, .long (gl M (gr M v0 10) j2)]) (rest := []) hX (m_MO_mixed l  v3 (gl M (gr M v0 10) j2) rfl) (cb_MO_mixed hts t_540 ⟨Nat.le_of_ble_eq_true rfl, Nat.le_of_ble_eq_true rfl⟩) preEq rfl rfl hl.1 rfl (lv_room (Nat.le_of_ble_eq_true rfl)) d_MO_digestOf_22 ⟨Nat.zero_le _, Nat.zero_le _⟩) ?_
      refine lv_topl (fun x3 ex3 => ?_)
      replace h := stA h ex3
      refine lv_lstore_n (lv' := [(3, .long x3), (0, .ref v0), (2, .int v2), (5, .int v5)]) hx hb d_MO_digestOf_25 rfl hl (by decide) rfl (fun ls hl => ?_)
      refine lv_iinc (k := 3) (v := (v5 + 1)) (lv' := [(5, .int (v5 + 1)), (3, .long x3), (0, .ref v0), (2, .int v2)]) hx hb d_MO_digestOf_26 hl rfl (by rfl) (by decide) rfl (fun ls hl => ?_)
      refine lv_goto (tgt := 8) hx hb d_MO_digestOf_29 (by decide) ?_
      exact ih v0 v2 x3 (v5 + 1) M _ _ _ hv0 (lv_sub hl [2, 3, 1, 0] rfl) hWd h
set_option maxHeartbeats 4000000 in
set_option maxRecDepth 100000 in
theorem m_MO_digestOf (l : Launch) {E : En} {K G : Nat → Nat} {L : List Nat} {M : Mm} {sz : Nat} {out : Int64} (v0 : Nat) (v1 : Int32) (v2 : Int32) (hv0 : K v0 = 9) (h : f_MO_digestOf G v0 v1 v2 M = some out) : Met l y_MO_digestOf w_MO_digestOf rm_MO_digestOf (va_Pc [.ref v0, .int v1, .int v2] (Wp E K G L M sz)) (QL E K G L sz out M) 0 0 (AL L sz) := by
  refine Met.ofW (cc := b_MO_digestOf) (maxL := 6) (ret := (some .long)) (by decide) rfl ?_
  intro p e s m av below meth c s₁ B hml hv
  obtain ⟨rfl, hWp⟩ := hv
  have hWd := Wd.start hWp
  obtain ⟨rfl, -⟩ := hWp
  have hX : CallFix p m c b_MO_digestOf 6 s _ w_MO_digestOf "NibbleTrieModel" := ⟨B.exec, B.bytes, hml, findClass_of_methodNamed B.named, atoms_spec (ws := w_MO_digestOf) B.pre⟩
  have hx := hX.1
  have hb := hX.2.1
  have hown := hX.2.2.2.1
  have hts := hX.2.2.2.2
  have hr := B.returns
  have hlk := B.notSynchronized
  have hl := lv_entry ([.ref v0, .int v1, .int v2]) (n := 6) (Nat.le_of_ble_eq_true rfl)
  rw [lg_entry_eq]
  generalize (lg_sl ([.ref v0, .int v1, .int v2]) ++ List.replicate (6 - (lg_sl ([.ref v0, .int v1, .int v2])).length) Slot.unset).toArray = ls at hl ⊢
  have hl : lv_has ls 6 [(0, .ref v0), (1, .int v1), (2, .int v2)] := hl
  unfold f_MO_digestOf at h
  refine lv_iload_n hx hb d_MO_digestOf_0 rfl (lv_at hl 2 rfl) ?_
  refine lv_iload_n hx hb d_MO_digestOf_1 rfl (lv_at hl 1 rfl) ?_
  refine lv_isub hx hb d_MO_digestOf_2 ?_
  refine lv_i2l hx hb d_MO_digestOf_3 rfl ?_
  refine lv_topl (fun x1 ex1 => ?_)
  replace h := stA h ex1
  refine lv_lstore_n (lv' := [(3, .long x1), (0, .ref v0), (1, .int v1), (2, .int v2)]) hx hb d_MO_digestOf_4 rfl hl (by decide) rfl (fun ls hl => ?_)
  refine lv_iload_n hx hb d_MO_digestOf_5 rfl (lv_at hl 2 rfl) ?_
  refine lv_istore (lv' := [(5, .int v1), (3, .long x1), (0, .ref v0), (1, .int v1), (2, .int v2)]) hx hb d_MO_digestOf_6 hl (by decide) rfl (fun ls hl => ?_)
  exact w_MO_digestOf_8 hX hr hlk FU v0 v2 x1 v1 M _ _ _ hv0 (lv_sub hl [2, 4, 1, 0] rfl) hWd h
set_option maxHeartbeats 4000000 in
set_option maxRecDepth 100000 in
theorem m_MO_refer (l : Launch) {E : En} {K G : Nat → Nat} {L : List Nat} {M : Mm} {sz : Nat} {out : Int32 × Mm} (v0 : Nat) (v1 : Int32) (v2 : Int32) (hv0 : K v0 = 9) (h : f_MO_refer G v0 v1 v2 M = some out) : Met l y_MO_refer w_MO_refer rm_MO_refer (va_Pc [.ref v0, .int v1, .int v2] (Wp E K G L M sz)) (QZ E K G L sz out.1 out.2) 0 0 (AL L sz) := by
  refine Met.ofW (cc := b_MO_refer) (maxL := 3) (ret := (some .boolean)) (by decide) rfl ?_
  intro p e s m av below meth c s₁ B hml hv
  obtain ⟨rfl, hWp⟩ := hv
  have hWd := Wd.start hWp
  obtain ⟨rfl, -⟩ := hWp
  have hX : CallFix p m c b_MO_refer 3 s _ w_MO_refer "NibbleTrieModel" := ⟨B.exec, B.bytes, hml, findClass_of_methodNamed B.named, atoms_spec (ws := w_MO_refer) B.pre⟩
  have hx := hX.1
  have hb := hX.2.1
  have hown := hX.2.2.2.1
  have hts := hX.2.2.2.2
  have hr := B.returns
  have hlk := B.notSynchronized
  have hl := lv_entry ([.ref v0, .int v1, .int v2]) (n := 3) (Nat.le_of_ble_eq_true rfl)
  rw [lg_entry_eq]
  generalize (lg_sl ([.ref v0, .int v1, .int v2]) ++ List.replicate (3 - (lg_sl ([.ref v0, .int v1, .int v2])).length) Slot.unset).toArray = ls at hl ⊢
  have hl : lv_has ls 3 [(0, .ref v0), (1, .int v1), (2, .int v2)] := hl
  unfold f_MO_refer at h
  refine lv_aload_n hx hb d_MO_refer_0 rfl (lv_at hl 0 rfl) ?_
  refine lv_iload_n hx hb d_MO_refer_1 rfl (lv_at hl 2 rfl) ?_
  refine p_MO_count hX t_427 hWd hv0 d_MO_refer_2 (fun H locs hWd => ?_)
  obtain ⟨M1, eM1, h⟩ := stE h
  rw [← eM1] at hWd
  refine lv_iload_n hx hb d_MO_refer_5 rfl (lv_at hl 1 rfl) ?_
  refine lv_iload_n hx hb d_MO_refer_6 rfl (lv_at hl 2 rfl) ?_
  refine lv_iadd hx hb d_MO_refer_7 ?_
  refine lv_aload_n hx hb d_MO_refer_8 rfl (lv_at hl 0 rfl) ?_
  refine g_MO_proofLength hX t_423 hWd hv0 d_MO_refer_9 ?_
  refine lv_icmp_le (tgt := 17) hx hb d_MO_refer_12 (by decide) (fun hc => ?_) (fun hc => ?_)
  · replace h := ifP h hc
    refine lv_aload_n hx hb d_MO_refer_17 rfl (lv_at hl 0 rfl) ?_
    refine lv_iload_n hx hb d_MO_refer_18 rfl (lv_at hl 2 rfl) ?_
    refine lv_if_le (tgt := 31) hx hb d_MO_refer_19 (by decide) (fun hc => ?_) (fun hc => ?_)
    · replace h := ifP h hc
      refine lv_lconst (v := 0) hx hb d_MO_refer_31 (by decide) ?_
      refine p_MO_first hX t_425 hWd hv0 d_MO_refer_32 (fun H locs hWd => ?_)
      obtain ⟨M2, eM2, h⟩ := stE h
      rw [← eM2] at hWd
      refine lv_aload_n hx hb d_MO_refer_35 rfl (lv_at hl 0 rfl) ?_
      refine lv_iload_n hx hb d_MO_refer_36 rfl (lv_at hl 2 rfl) ?_
      refine lv_iconst (v := 1) hx hb d_MO_refer_37 (by decide) ?_
      refine lv_icmp_le (tgt := 52) hx hb d_MO_refer_38 (by decide) (fun hc => ?_) (fun hc => ?_)
      · replace h := ifP h hc
        refine lv_lconst (v := 0) hx hb d_MO_refer_52 (by decide) ?_
        refine p_MO_second hX t_426 hWd hv0 d_MO_refer_53 (fun H locs hWd => ?_)
        obtain ⟨M3, eM3, h⟩ := stE h
        rw [← eM3] at hWd
        refine lv_iconst (v := 1) hx hb d_MO_refer_56 (by decide) ?_
        obtain rfl := Option.some.inj h
        exact e_zret hX hr hlk hWd (Or.inr rfl) d_MO_refer_57
      · replace h := ifN h hc
        refine lv_aload_n hx hb d_MO_refer_41 rfl (lv_at hl 0 rfl) ?_
        refine g_MO_proof hX t_422 hWd hv0 d_MO_refer_42 ?_
        have q4 := v_MO_proof hWd hv0
        refine lv_iload_n hx hb d_MO_refer_45 rfl (lv_at hl 1 rfl) ?_
        refine lv_iconst (v := 1) hx hb d_MO_refer_46 (by decide) ?_
        refine lv_iadd hx hb d_MO_refer_47 ?_
        obtain ⟨j5, hj5, h⟩ := ob h
        refine r_lald hX hWd q4 hj5 d_MO_refer_48 ?_
        refine lv_goto (tgt := 53) hx hb d_MO_refer_49 (by decide) ?_
        refine p_MO_second hX t_426 hWd hv0 d_MO_refer_53 (fun H locs hWd => ?_)
        obtain ⟨M6, eM6, h⟩ := stE h
        rw [← eM6] at hWd
        refine lv_iconst (v := 1) hx hb d_MO_refer_56 (by decide) ?_
        obtain rfl := Option.some.inj h
        exact e_zret hX hr hlk hWd (Or.inr rfl) d_MO_refer_57
    · replace h := ifN h hc
      refine lv_aload_n hx hb d_MO_refer_22 rfl (lv_at hl 0 rfl) ?_
      refine g_MO_proof hX t_422 hWd hv0 d_MO_refer_23 ?_
      have q7 := v_MO_proof hWd hv0
      refine lv_iload_n hx hb d_MO_refer_26 rfl (lv_at hl 1 rfl) ?_
      obtain ⟨j8, hj8, h⟩ := ob h
      refine r_lald hX hWd q7 hj8 d_MO_refer_27 ?_
      refine lv_goto (tgt := 32) hx hb d_MO_refer_28 (by decide) ?_
      refine p_MO_first hX t_425 hWd hv0 d_MO_refer_32 (fun H locs hWd => ?_)
      obtain ⟨M9, eM9, h⟩ := stE h
      rw [← eM9] at hWd
      refine lv_aload_n hx hb d_MO_refer_35 rfl (lv_at hl 0 rfl) ?_
      refine lv_iload_n hx hb d_MO_refer_36 rfl (lv_at hl 2 rfl) ?_
      refine lv_iconst (v := 1) hx hb d_MO_refer_37 (by decide) ?_
      refine lv_icmp_le (tgt := 52) hx hb d_MO_refer_38 (by decide) (fun hc => ?_) (fun hc => ?_)
      · replace h := ifP h hc
        refine lv_lconst (v := 0) hx hb d_MO_refer_52 (by decide) ?_
        refine p_MO_second hX t_426 hWd hv0 d_MO_refer_53 (fun H locs hWd => ?_)
        obtain ⟨M10, eM10, h⟩ := stE h
        rw [← eM10] at hWd
        refine lv_iconst (v := 1) hx hb d_MO_refer_56 (by decide) ?_
        obtain rfl := Option.some.inj h
        exact e_zret hX hr hlk hWd (Or.inr rfl) d_MO_refer_57
      · replace h := ifN h hc
        refine lv_aload_n hx hb d_MO_refer_41 rfl (lv_at hl 0 rfl) ?_
        refine g_MO_proof hX t_422 hWd hv0 d_MO_refer_42 ?_
        have q11 := v_MO_proof hWd hv0
        refine lv_iload_n hx hb d_MO_refer_45 rfl (lv_at hl 1 rfl) ?_
        refine lv_iconst (v := 1) hx hb d_MO_refer_46 (by decide) ?_
        refine lv_iadd hx hb d_MO_refer_47 ?_
        obtain ⟨j12, hj12, h⟩ := ob h
        refine r_lald hX hWd q11 hj12 d_MO_refer_48 ?_
        refine lv_goto (tgt := 53) hx hb d_MO_refer_49 (by decide) ?_
        refine p_MO_second hX t_426 hWd hv0 d_MO_refer_53 (fun H locs hWd => ?_)
        obtain ⟨M13, eM13, h⟩ := stE h
        rw [← eM13] at hWd
        refine lv_iconst (v := 1) hx hb d_MO_refer_56 (by decide) ?_
        obtain rfl := Option.some.inj h
        exact e_zret hX hr hlk hWd (Or.inr rfl) d_MO_refer_57
  · replace h := ifN h hc
    refine lv_iconst (v := 0) hx hb d_MO_refer_15 (by decide) ?_
    obtain rfl := Option.some.inj h
    exact e_zret hX hr hlk hWd (Or.inl rfl) d_MO_refer_16
set_option maxHeartbeats 4000000 in
set_option maxRecDepth 100000 in
theorem w_MO_branchEnd_7 {p : Program} {l : Launch} {e : Env} {s : State} {m : MethodId} {args : Array Value} {below : List Frame} {meth : Method} {c : Code} {E : En} {K G : Nat → Nat} {L : List Nat} (hX : CallFix p m c b_MO_branchEnd 3 s args w_MO_branchEnd "NibbleTrieModel") (hr : meth.sig.returnType = (some .int)) (hlk : meth.locks = false) {out : Int32} : ∀ (n : Nat) (v0 : Nat) (v1 : Int32) (v2 : Int32) (M : Mm) (H : Heap) (locs : List Loc) (ls : Array Slot), K v0 = 9 → lv_has ls 3 [(0, .ref v0), (1, .int v1), (2, .int v2)] → Wd E K G L M s.heap H locs s → f_MO_branchEnd_7 G n v0 v1 v2 M = some out → W p l e rm_MO_branchEnd s m args below meth c H locs 0 0 (MQ below (QI E K G L s.heap.size out M) args s 0 0 (AL L s.heap.size)) (F0 m 7 ls []) := by
  have hx := hX.1
  have hb := hX.2.1
  have hown := hX.2.2.2.1
  have hts := hX.2.2.2.2
  intro n
  induction n with
  | zero => intro _ _ _ _ _ _ _ _ _ _ h; rw [f_MO_branchEnd_7] at h; cases h
  | succ n ih =>
    intro v0 v1 v2 M H locs ls hv0 hl hWd h
    rw [f_MO_branchEnd_7] at h
    refine lv_iload_n hx hb d_MO_branchEnd_7 rfl (lv_at hl 2 rfl) ?_
    refine lv_bipush (v := 16) hx hb d_MO_branchEnd_8 (by decide) ?_
    refine lv_icmp_ge (tgt := 53) hx hb d_MO_branchEnd_10 (by decide) (fun hc => ?_) (fun hc => ?_)
    · replace h := ifP h hc
      refine lv_iload_n hx hb d_MO_branchEnd_53 rfl (lv_at hl 1 rfl) ?_
      refine lv_aload_n hx hb d_MO_branchEnd_54 rfl (lv_at hl 0 rfl) ?_
      refine g_MO_proofLength hX t_423 hWd hv0 d_MO_branchEnd_55 ?_
      refine lv_icmp_ge (tgt := 67) hx hb d_MO_branchEnd_58 (by decide) (fun hc => ?_) (fun hc => ?_)
      · replace h := ifP h hc
        refine lv_iconst (v := (-1)) hx hb d_MO_branchEnd_67 (by decide) ?_
        obtain rfl := Option.some.inj h
        exact e_iret hX hr hlk hWd d_MO_branchEnd_68
      · replace h := ifN h hc
        refine lv_iload_n hx hb d_MO_branchEnd_61 rfl (lv_at hl 1 rfl) ?_
        refine lv_iconst (v := 1) hx hb d_MO_branchEnd_62 (by decide) ?_
        refine lv_iadd hx hb d_MO_branchEnd_63 ?_
        refine lv_goto (tgt := 68) hx hb d_MO_branchEnd_64 (by decide) ?_
        obtain rfl := Option.some.inj h
        exact e_iret hX hr hlk hWd d_MO_branchEnd_68
    · replace h := ifN h hc
      refine lv_iload_n hx hb d_MO_branchEnd_13 rfl (lv_at hl 1 rfl) ?_
      refine lv_aload_n hx hb d_MO_branchEnd_14 rfl (lv_at hl 0 rfl) ?_
      refine g_MO_proofLength hX t_423 hWd hv0 d_MO_branchEnd_15 ?_
      refine lv_icmp_ge (tgt := 33) hx hb d_MO_branchEnd_18 (by decide) (fun hc => ?_) (fun hc => ?_)
      · replace h := ifP h hc
        refine lv_iconst (v := (-1)) hx hb d_MO_branchEnd_33 (by decide) ?_
        obtain rfl := Option.some.inj h
        exact e_iret hX hr hlk hWd d_MO_branchEnd_34
      · replace h := ifN h hc
        refine lv_aload_n hx hb d_MO_branchEnd_21 rfl (lv_at hl 0 rfl) ?_
        refine g_MO_proof hX t_422 hWd hv0 d_MO_branchEnd_22 ?_
        have q1 := v_MO_proof hWd hv0
        refine lv_iload_n hx hb d_MO_branchEnd_25 rfl (lv_at hl 1 rfl) ?_
        obtain ⟨j2, hj2, h⟩ := ob h
        refine r_lald hX hWd q1 hj2 d_MO_branchEnd_26 ?_
        refine kp_z (va_runS (As := [.long (gl M (gr M v0 10) j2)]) (rest := []) hX (m_MO_few l  (gl M (gr M v0 10) j2) rfl) (cb_MO_few hts t_636 ⟨Nat.le_of_ble_eq_true rfl, Nat.le_of_ble_eq_true rfl⟩) preEq rfl rfl hl.1 rfl (lv_room (Nat.le_of_ble_eq_true rfl)) d_MO_branchEnd_27 ⟨Nat.zero_le _, Nat.zero_le _⟩) (fun z3 => ?_)
        refine lv_if_ne (tgt := 35) hx hb d_MO_branchEnd_30 (by decide) (fun hc => ?_) (fun hc => ?_)
        · replace h := ifN h hc
          refine lv_iload_n hx hb d_MO_branchEnd_35 rfl (lv_at hl 1 rfl) ?_
          refine lv_iconst (v := 1) hx hb d_MO_branchEnd_36 (by decide) ?_
          refine lv_iadd hx hb d_MO_branchEnd_37 ?_
          refine lv_aload_n hx hb d_MO_branchEnd_38 rfl (lv_at hl 0 rfl) ?_
          refine g_MO_proof hX t_422 hWd hv0 d_MO_branchEnd_39 ?_
          have q4 := v_MO_proof hWd hv0
          refine lv_iload_n hx hb d_MO_branchEnd_42 rfl (lv_at hl 1 rfl) ?_
          obtain ⟨j5, hj5, h⟩ := ob h
          refine r_lald hX hWd q4 hj5 d_MO_branchEnd_43 ?_
          refine lv_l2i hx hb d_MO_branchEnd_44 rfl ?_
          refine lv_iadd hx hb d_MO_branchEnd_45 ?_
          refine lv_topi (fun x6 ex6 => ?_)
          replace h := stA h ex6
          refine lv_istore_n (lv' := [(1, .int x6), (0, .ref v0), (2, .int v2)]) hx hb d_MO_branchEnd_46 rfl hl (by decide) rfl (fun ls hl => ?_)
          refine lv_iinc (k := 2) (v := (v2 + 1)) (lv' := [(2, .int (v2 + 1)), (1, .int x6), (0, .ref v0)]) hx hb d_MO_branchEnd_47 hl rfl (by rfl) (by decide) rfl (fun ls hl => ?_)
          refine lv_goto (tgt := 7) hx hb d_MO_branchEnd_50 (by decide) ?_
          exact ih v0 x6 (v2 + 1) M _ _ _ hv0 (lv_sub hl [2, 1, 0] rfl) hWd h
        · replace h := ifP h hc
          refine lv_iconst (v := (-1)) hx hb d_MO_branchEnd_33 (by decide) ?_
          obtain rfl := Option.some.inj h
          exact e_iret hX hr hlk hWd d_MO_branchEnd_34
set_option maxHeartbeats 4000000 in
set_option maxRecDepth 100000 in
theorem m_MO_branchEnd (l : Launch) {E : En} {K G : Nat → Nat} {L : List Nat} {M : Mm} {sz : Nat} {out : Int32} (v0 : Nat) (hv0 : K v0 = 9) (h : f_MO_branchEnd G v0 M = some out) : Met l y_MO_branchEnd w_MO_branchEnd rm_MO_branchEnd (va_Pc [.ref v0] (Wp E K G L M sz)) (QI E K G L sz out M) 0 0 (AL L sz) := by
  refine Met.ofW (cc := b_MO_branchEnd) (maxL := 3) (ret := (some .int)) (by decide) rfl ?_
  intro p e s m av below meth c s₁ B hml hv
  obtain ⟨rfl, hWp⟩ := hv
  have hWd := Wd.start hWp
  obtain ⟨rfl, -⟩ := hWp
  have hX : CallFix p m c b_MO_branchEnd 3 s _ w_MO_branchEnd "NibbleTrieModel" := ⟨B.exec, B.bytes, hml, findClass_of_methodNamed B.named, atoms_spec (ws := w_MO_branchEnd) B.pre⟩
  have hx := hX.1
  have hb := hX.2.1
  have hown := hX.2.2.2.1
  have hts := hX.2.2.2.2
  have hr := B.returns
  have hlk := B.notSynchronized
  have hl := lv_entry ([.ref v0]) (n := 3) (Nat.le_of_ble_eq_true rfl)
  rw [lg_entry_eq]
  generalize (lg_sl ([.ref v0]) ++ List.replicate (3 - (lg_sl ([.ref v0])).length) Slot.unset).toArray = ls at hl ⊢
  have hl : lv_has ls 3 [(0, .ref v0)] := hl
  unfold f_MO_branchEnd at h
  refine lv_aload_n hx hb d_MO_branchEnd_0 rfl (lv_at hl 0 rfl) ?_
  refine g_MO_at hX t_424 hWd hv0 d_MO_branchEnd_1 ?_
  refine lv_istore_n (lv' := [(1, .int (gi M v0 12)), (0, .ref v0)]) hx hb d_MO_branchEnd_4 rfl hl (by decide) rfl (fun ls hl => ?_)
  refine lv_iconst (v := 0) hx hb d_MO_branchEnd_5 (by decide) ?_
  refine lv_istore_n (lv' := [(2, .int 0), (1, .int (gi M v0 12)), (0, .ref v0)]) hx hb d_MO_branchEnd_6 rfl hl (by decide) rfl (fun ls hl => ?_)
  exact w_MO_branchEnd_7 hX hr hlk FU v0 (gi M v0 12) 0 M _ _ _ hv0 (lv_sub hl [2, 1, 0] rfl) hWd h
set_option maxHeartbeats 4000000 in
set_option maxRecDepth 100000 in
theorem w_MO_throughBranch_82 {p : Program} {l : Launch} {e : Env} {s : State} {m : MethodId} {args : Array Value} {below : List Frame} {meth : Method} {c : Code} {E : En} {K G : Nat → Nat} {L : List Nat} (hX : CallFix p m c b_MO_throughBranch 6 s args w_MO_throughBranch "NibbleTrieModel") (hr : meth.sig.returnType = (some .int)) (hlk : meth.locks = false) {out : Int32 × Mm} : ∀ (n : Nat) (v0 : Nat) (v3 : Int32) (v4 : Int32) (v5 : Int32) (M : Mm) (H : Heap) (locs : List Loc) (ls : Array Slot), K v0 = 9 → lv_has ls 6 [(0, .ref v0), (3, .int v3), (4, .int v4), (5, .int v5)] → Wd E K G L M s.heap H locs s → f_MO_throughBranch_82 G n v0 v3 v4 v5 M = some out → W p l e rm_MO_throughBranch s m args below meth c H locs 0 0 (MQ below (QI E K G L s.heap.size out.1 out.2) args s 0 0 (AL L s.heap.size)) (F0 m 82 ls []) := by
  have hx := hX.1
  have hb := hX.2.1
  have hown := hX.2.2.2.1
  have hts := hX.2.2.2.2
  intro n
  induction n with
  | zero => intro _ _ _ _ _ _ _ _ _ _ _ h; rw [f_MO_throughBranch_82] at h; cases h
  | succ n ih =>
    intro v0 v3 v4 v5 M H locs ls hv0 hl hWd h
    rw [f_MO_throughBranch_82] at h
    refine lv_iload hx hb d_MO_throughBranch_82 (lv_at hl 3 rfl) ?_
    refine lv_iload hx hb d_MO_throughBranch_84 (lv_at hl 2 rfl) ?_
    refine lv_icmp_ge (tgt := 107) hx hb d_MO_throughBranch_86 (by decide) (fun hc => ?_) (fun hc => ?_)
    · replace h := ifP h hc
      refine lv_aload_n hx hb d_MO_throughBranch_107 rfl (lv_at hl 0 rfl) ?_
      refine lv_aload_n hx hb d_MO_throughBranch_108 rfl (lv_at hl 0 rfl) ?_
      refine g_MO_path hX t_428 hWd hv0 d_MO_throughBranch_109 ?_
      refine lv_bipush (v := 16) hx hb d_MO_throughBranch_112 (by decide) ?_
      refine lv_iload hx hb d_MO_throughBranch_114 (lv_at hl 2 rfl) ?_
      refine lv_iadd hx hb d_MO_throughBranch_116 ?_
      refine kp_i (va_runS (As := [.int (gi M v0 16), .int (16 + v4)]) (rest := [.ref v0]) hX (m_MO_behind l  (gi M v0 16) (16 + v4) rfl) (cb_MO_behind hts t_533 ⟨Nat.le_of_ble_eq_true rfl, Nat.le_of_ble_eq_true rfl⟩) preEq rfl rfl hl.1 rfl (lv_room (Nat.le_of_ble_eq_true rfl)) d_MO_throughBranch_117 ⟨Nat.zero_le _, Nat.zero_le _⟩) ?_
      refine p_MO_path hX t_428 hWd hv0 d_MO_throughBranch_120 (fun H locs hWd => ?_)
      obtain ⟨M1, eM1, h⟩ := stE h
      rw [← eM1] at hWd
      refine lv_aload_n hx hb d_MO_throughBranch_123 rfl (lv_at hl 0 rfl) ?_
      refine lv_iload_n hx hb d_MO_throughBranch_124 rfl (lv_at hl 1 rfl) ?_
      refine lv_iconst (v := 1) hx hb d_MO_throughBranch_125 (by decide) ?_
      refine lv_iadd hx hb d_MO_throughBranch_126 ?_
      refine lv_aload_n hx hb d_MO_throughBranch_127 rfl (lv_at hl 0 rfl) ?_
      refine g_MO_proof hX t_422 hWd hv0 d_MO_throughBranch_128 ?_
      have q2 := v_MO_proof hWd hv0
      refine lv_iload_n hx hb d_MO_throughBranch_131 rfl (lv_at hl 1 rfl) ?_
      obtain ⟨j3, hj3, h⟩ := ob h
      refine r_lald hX hWd q2 hj3 d_MO_throughBranch_132 ?_
      refine lv_l2i hx hb d_MO_throughBranch_133 rfl ?_
      obtain ⟨q4, hq4, h⟩ := ob h
      refine kc_z (va_runV (As := [.int (v3 + 1), .int ((gl M1 (gr M1 v0 10) j3).toInt32)]) (rest := []) hX (m_MO_refer l  v0 (v3 + 1) ((gl M1 (gr M1 v0 10) j3).toInt32) hv0 hq4) (cb_MO_refer hts t_639 ⟨Nat.le_of_ble_eq_true rfl, Nat.le_of_ble_eq_true rfl⟩) (pv_MO hWd hv0) rfl rfl hl.1 rfl (lv_room (Nat.le_of_ble_eq_true rfl)) d_MO_throughBranch_134 ⟨Nat.zero_le _, Nat.zero_le _⟩) hWd (fun z5 H locs hWd => ?_)
      refine lv_istore (lv' := [(5, .int q4.1), (0, .ref v0), (3, .int v3), (4, .int v4)]) hx hb d_MO_throughBranch_137 hl (by decide) rfl (fun ls hl => ?_)
      refine lv_iload hx hb d_MO_throughBranch_139 (lv_at hl 0 rfl) ?_
      refine lv_if_eq (tgt := 148) hx hb d_MO_throughBranch_141 (by decide) (fun hc => ?_) (fun hc => ?_)
      · replace h := ifP h hc
        refine lv_iconst (v := (-1)) hx hb d_MO_throughBranch_148 (by decide) ?_
        obtain rfl := Option.some.inj h
        exact e_iret hX hr hlk hWd d_MO_throughBranch_149
      · replace h := ifN h hc
        refine lv_iconst (v := 0) hx hb d_MO_throughBranch_144 (by decide) ?_
        refine lv_goto (tgt := 149) hx hb d_MO_throughBranch_145 (by decide) ?_
        obtain rfl := Option.some.inj h
        exact e_iret hX hr hlk hWd d_MO_throughBranch_149
    · replace h := ifN h hc
      refine lv_iload_n hx hb d_MO_throughBranch_89 rfl (lv_at hl 1 rfl) ?_
      refine lv_iconst (v := 1) hx hb d_MO_throughBranch_90 (by decide) ?_
      refine lv_iadd hx hb d_MO_throughBranch_91 ?_
      refine lv_aload_n hx hb d_MO_throughBranch_92 rfl (lv_at hl 0 rfl) ?_
      refine g_MO_proof hX t_422 hWd hv0 d_MO_throughBranch_93 ?_
      have q6 := v_MO_proof hWd hv0
      refine lv_iload_n hx hb d_MO_throughBranch_96 rfl (lv_at hl 1 rfl) ?_
      obtain ⟨j7, hj7, h⟩ := ob h
      refine r_lald hX hWd q6 hj7 d_MO_throughBranch_97 ?_
      refine lv_l2i hx hb d_MO_throughBranch_98 rfl ?_
      refine lv_iadd hx hb d_MO_throughBranch_99 ?_
      refine lv_topi (fun x8 ex8 => ?_)
      replace h := stA h ex8
      refine lv_istore_n (lv' := [(3, .int x8), (0, .ref v0), (4, .int v4), (5, .int v5)]) hx hb d_MO_throughBranch_100 rfl hl (by decide) rfl (fun ls hl => ?_)
      refine lv_iinc (k := 3) (v := (v5 + 1)) (lv' := [(5, .int (v5 + 1)), (3, .int x8), (0, .ref v0), (4, .int v4)]) hx hb d_MO_throughBranch_101 hl rfl (by rfl) (by decide) rfl (fun ls hl => ?_)
      refine lv_goto (tgt := 82) hx hb d_MO_throughBranch_104 (by decide) ?_
      exact ih v0 x8 v4 (v5 + 1) M _ _ _ hv0 (lv_sub hl [2, 1, 3, 0] rfl) hWd h
set_option maxHeartbeats 4000000 in
set_option maxRecDepth 100000 in
theorem m_MO_throughBranch (l : Launch) {E : En} {K G : Nat → Nat} {L : List Nat} {M : Mm} {sz : Nat} {out : Int32 × Mm} (v0 : Nat) (hv0 : K v0 = 9) (h : f_MO_throughBranch G v0 M = some out) : Met l y_MO_throughBranch w_MO_throughBranch rm_MO_throughBranch (va_Pc [.ref v0] (Wp E K G L M sz)) (QI E K G L sz out.1 out.2) 0 0 (AL L sz) := by
  refine Met.ofW (cc := b_MO_throughBranch) (maxL := 6) (ret := (some .int)) (by decide) rfl ?_
  intro p e s m av below meth c s₁ B hml hv
  obtain ⟨rfl, hWp⟩ := hv
  have hWd := Wd.start hWp
  obtain ⟨rfl, -⟩ := hWp
  have hX : CallFix p m c b_MO_throughBranch 6 s _ w_MO_throughBranch "NibbleTrieModel" := ⟨B.exec, B.bytes, hml, findClass_of_methodNamed B.named, atoms_spec (ws := w_MO_throughBranch) B.pre⟩
  have hx := hX.1
  have hb := hX.2.1
  have hown := hX.2.2.2.1
  have hts := hX.2.2.2.2
  have hr := B.returns
  have hlk := B.notSynchronized
  have hl := lv_entry ([.ref v0]) (n := 6) (Nat.le_of_ble_eq_true rfl)
  rw [lg_entry_eq]
  generalize (lg_sl ([.ref v0]) ++ List.replicate (6 - (lg_sl ([.ref v0])).length) Slot.unset).toArray = ls at hl ⊢
  have hl : lv_has ls 6 [(0, .ref v0)] := hl
  unfold f_MO_throughBranch at h
  refine lv_aload_n hx hb d_MO_throughBranch_0 rfl (lv_at hl 0 rfl) ?_
  obtain ⟨q1, hq1, h⟩ := ob h
  refine kc_i (va_runV (As := []) (rest := []) hX (m_MO_branchEnd l  v0 hv0 hq1) (cb_MO_branchEnd hts t_657 ⟨Nat.le_of_ble_eq_true rfl, Nat.le_of_ble_eq_true rfl⟩) (pv_MO hWd hv0) rfl rfl hl.1 rfl (lv_room (Nat.le_of_ble_eq_true rfl)) d_MO_throughBranch_1 ⟨Nat.zero_le _, Nat.zero_le _⟩) hWd (fun H locs hWd => ?_)
  refine lv_istore_n (lv' := [(1, .int q1), (0, .ref v0)]) hx hb d_MO_throughBranch_4 rfl hl (by decide) rfl (fun ls hl => ?_)
  refine lv_iload_n hx hb d_MO_throughBranch_5 rfl (lv_at hl 0 rfl) ?_
  refine lv_if_lt (tgt := 26) hx hb d_MO_throughBranch_6 (by decide) (fun hc => ?_) (fun hc => ?_)
  · replace h := ifP h hc
    refine lv_iconst (v := (-1)) hx hb d_MO_throughBranch_26 (by decide) ?_
    obtain rfl := Option.some.inj h
    exact e_iret hX hr hlk hWd d_MO_throughBranch_27
  · replace h := ifN h hc
    refine lv_aload_n hx hb d_MO_throughBranch_9 rfl (lv_at hl 1 rfl) ?_
    refine lv_aload_n hx hb d_MO_throughBranch_10 rfl (lv_at hl 1 rfl) ?_
    refine g_MO_at hX t_424 hWd hv0 d_MO_throughBranch_11 ?_
    refine lv_iload_n hx hb d_MO_throughBranch_14 rfl (lv_at hl 0 rfl) ?_
    obtain ⟨q2, hq2, h⟩ := ob h
    refine kc_l (va_runV (As := [.int (gi M v0 12), .int q1]) (rest := []) hX (m_MO_digestOf l  v0 (gi M v0 12) q1 hv0 hq2) (cb_MO_digestOf hts t_643 ⟨Nat.le_of_ble_eq_true rfl, Nat.le_of_ble_eq_true rfl⟩) (pv_MO hWd hv0) rfl rfl hl.1 rfl (lv_room (Nat.le_of_ble_eq_true rfl)) d_MO_throughBranch_15 ⟨Nat.zero_le _, Nat.zero_le _⟩) hWd (fun H locs hWd => ?_)
    refine lv_aload_n hx hb d_MO_throughBranch_18 rfl (lv_at hl 1 rfl) ?_
    refine g_MO_first hX t_425 hWd hv0 d_MO_throughBranch_19 ?_
    refine W.lcmp hx hb d_MO_throughBranch_22 ?_
    refine lv_if_eq (tgt := 28) hx hb d_MO_throughBranch_23 (by decide) (fun hc => ?_) (fun hc => ?_)
    · replace h := ifP h hc
      refine lv_aload_n hx hb d_MO_throughBranch_28 rfl (lv_at hl 1 rfl) ?_
      refine g_MO_path hX t_428 hWd hv0 d_MO_throughBranch_29 ?_
      refine kp_i (va_runS (As := [.int (gi M v0 16)]) (rest := []) hX (m_MO_nibbles l  (gi M v0 16) rfl) (cb_MO_nibbles hts t_468 ⟨Nat.le_of_ble_eq_true rfl, Nat.le_of_ble_eq_true rfl⟩) preEq rfl rfl hl.1 rfl (lv_room (Nat.le_of_ble_eq_true rfl)) d_MO_throughBranch_32 ⟨Nat.zero_le _, Nat.zero_le _⟩) ?_
      refine lv_topi (fun x3 ex3 => ?_)
      replace h := stA h ex3
      refine lv_istore_n (lv' := [(2, .int x3), (1, .int q1), (0, .ref v0)]) hx hb d_MO_throughBranch_35 rfl hl (by decide) rfl (fun ls hl => ?_)
      refine lv_aload_n hx hb d_MO_throughBranch_36 rfl (lv_at hl 2 rfl) ?_
      refine g_MO_at hX t_424 hWd hv0 d_MO_throughBranch_37 ?_
      refine lv_istore_n (lv' := [(3, .int (gi M v0 12)), (2, .int x3), (1, .int q1), (0, .ref v0)]) hx hb d_MO_throughBranch_40 rfl hl (by decide) rfl (fun ls hl => ?_)
      refine lv_aload_n hx hb d_MO_throughBranch_41 rfl (lv_at hl 3 rfl) ?_
      refine lv_iload_n hx hb d_MO_throughBranch_42 rfl (lv_at hl 2 rfl) ?_
      refine p_MO_at hX t_424 hWd hv0 d_MO_throughBranch_43 (fun H locs hWd => ?_)
      obtain ⟨M4, eM4, h⟩ := stE h
      rw [← eM4] at hWd
      refine lv_iload_n hx hb d_MO_throughBranch_46 rfl (lv_at hl 1 rfl) ?_
      refine lv_if_ne (tgt := 64) hx hb d_MO_throughBranch_47 (by decide) (fun hc => ?_) (fun hc => ?_)
      · replace h := ifN h hc
        refine lv_aload_n hx hb d_MO_throughBranch_64 rfl (lv_at hl 3 rfl) ?_
        refine g_MO_path hX t_428 hWd hv0 d_MO_throughBranch_65 ?_
        refine lv_iconst (v := 4) hx hb d_MO_throughBranch_68 (by decide) ?_
        refine lv_iload_n hx hb d_MO_throughBranch_69 rfl (lv_at hl 1 rfl) ?_
        refine lv_iconst (v := 1) hx hb d_MO_throughBranch_70 (by decide) ?_
        refine lv_isub hx hb d_MO_throughBranch_71 ?_
        refine lv_imul hx hb d_MO_throughBranch_72 ?_
        refine lv_ishr hx hb d_MO_throughBranch_73 ?_
        refine lv_bipush (v := 15) hx hb d_MO_throughBranch_74 (by decide) ?_
        refine lv_iand hx hb d_MO_throughBranch_76 ?_
        refine lv_topi (fun x5 ex5 => ?_)
        replace h := stA h ex5
        refine lv_istore (lv' := [(4, .int x5), (3, .int (gi M v0 12)), (2, .int x3), (1, .int q1), (0, .ref v0)]) hx hb d_MO_throughBranch_77 hl (by decide) rfl (fun ls hl => ?_)
        refine lv_iconst (v := 0) hx hb d_MO_throughBranch_79 (by decide) ?_
        refine lv_istore (lv' := [(5, .int 0), (4, .int x5), (3, .int (gi M v0 12)), (2, .int x3), (1, .int q1), (0, .ref v0)]) hx hb d_MO_throughBranch_80 hl (by decide) rfl (fun ls hl => ?_)
        exact w_MO_throughBranch_82 hX hr hlk FU v0 (gi M v0 12) x5 0 M4 _ _ _ hv0 (lv_sub hl [5, 2, 1, 0] rfl) hWd h
      · replace h := ifP h hc
        refine lv_aload_n hx hb d_MO_throughBranch_50 rfl (lv_at hl 3 rfl) ?_
        refine lv_aload_n hx hb d_MO_throughBranch_51 rfl (lv_at hl 3 rfl) ?_
        refine g_MO_proof hX t_422 hWd hv0 d_MO_throughBranch_52 ?_
        have q6 := v_MO_proof hWd hv0
        refine lv_iload_n hx hb d_MO_throughBranch_55 rfl (lv_at hl 2 rfl) ?_
        refine lv_iconst (v := 1) hx hb d_MO_throughBranch_56 (by decide) ?_
        refine lv_isub hx hb d_MO_throughBranch_57 ?_
        obtain ⟨j7, hj7, h⟩ := ob h
        refine r_lald hX hWd q6 hj7 d_MO_throughBranch_58 ?_
        refine p_MO_first hX t_425 hWd hv0 d_MO_throughBranch_59 (fun H locs hWd => ?_)
        obtain ⟨M8, eM8, h⟩ := stE h
        rw [← eM8] at hWd
        refine lv_iconst (v := 1) hx hb d_MO_throughBranch_62 (by decide) ?_
        obtain rfl := Option.some.inj h
        exact e_iret hX hr hlk hWd d_MO_throughBranch_63
    · replace h := ifN h hc
      refine lv_iconst (v := (-1)) hx hb d_MO_throughBranch_26 (by decide) ?_
      obtain rfl := Option.some.inj h
      exact e_iret hX hr hlk hWd d_MO_throughBranch_27
set_option maxHeartbeats 4000000 in
set_option maxRecDepth 100000 in
theorem m_MO_throughTwo (l : Launch) {E : En} {K G : Nat → Nat} {L : List Nat} {M : Mm} {sz : Nat} {out : Int32 × Mm} (v0 : Nat) (hv0 : K v0 = 9) (h : f_MO_throughTwo G v0 M = out) : Met l y_MO_throughTwo w_MO_throughTwo rm_MO_throughTwo (va_Pc [.ref v0] (Wp E K G L M sz)) (QI E K G L sz out.1 out.2) 0 0 (AL L sz) := by
  refine Met.ofW (cc := b_MO_throughTwo) (maxL := 2) (ret := (some .int)) (by decide) rfl ?_
  intro p e s m av below meth c s₁ B hml hv
  obtain ⟨rfl, hWp⟩ := hv
  have hWd := Wd.start hWp
  obtain ⟨rfl, -⟩ := hWp
  have hX : CallFix p m c b_MO_throughTwo 2 s _ w_MO_throughTwo "NibbleTrieModel" := ⟨B.exec, B.bytes, hml, findClass_of_methodNamed B.named, atoms_spec (ws := w_MO_throughTwo) B.pre⟩
  have hx := hX.1
  have hb := hX.2.1
  have hown := hX.2.2.2.1
  have hts := hX.2.2.2.2
  have hr := B.returns
  have hlk := B.notSynchronized
  have hl := lv_entry ([.ref v0]) (n := 2) (Nat.le_of_ble_eq_true rfl)
  rw [lg_entry_eq]
  generalize (lg_sl ([.ref v0]) ++ List.replicate (2 - (lg_sl ([.ref v0])).length) Slot.unset).toArray = ls at hl ⊢
  have hl : lv_has ls 2 [(0, .ref v0)] := hl
  unfold f_MO_throughTwo at h
  refine lv_aload_n hx hb d_MO_throughTwo_0 rfl (lv_at hl 0 rfl) ?_
  refine g_MO_first hX t_425 hWd hv0 d_MO_throughTwo_1 ?_
  refine lv_ldc2 (v := 3) hx hb hown (hts _ (List.mem_cons_of_mem _ t_651)) d_MO_throughTwo_4 ?_
  refine W.lcmp hx hb d_MO_throughTwo_7 ?_
  refine lv_if_lt (tgt := 22) hx hb d_MO_throughTwo_8 (by decide) (fun hc => ?_) (fun hc => ?_)
  · replace h := ifP h hc
    refine lv_iconst (v := (-1)) hx hb d_MO_throughTwo_22 (by decide) ?_
    refine lv_goto (tgt := 33) hx hb d_MO_throughTwo_23 (by decide) ?_
    refine lv_istore_n (lv' := [(1, .int (-1)), (0, .ref v0)]) hx hb d_MO_throughTwo_33 rfl hl (by decide) rfl (fun ls hl => ?_)
    refine lv_iload_n hx hb d_MO_throughTwo_34 rfl (lv_at hl 0 rfl) ?_
    refine lv_if_lt (tgt := 45) hx hb d_MO_throughTwo_35 (by decide) (fun hc => ?_) (fun hc => ?_)
    · replace h := ifP h hc
      refine lv_iconst (v := (-1)) hx hb d_MO_throughTwo_45 (by decide) ?_
      subst h
      exact e_iret hX hr hlk hWd d_MO_throughTwo_46
    · replace h := ifN h hc
      refine lv_iload_n hx hb d_MO_throughTwo_38 rfl (lv_at hl 0 rfl) ?_
      refine kp_i (va_runS (As := [.int (-1)]) (rest := []) hX (m_MO_nibbles l  (-1) rfl) (cb_MO_nibbles hts t_468 ⟨Nat.le_of_ble_eq_true rfl, Nat.le_of_ble_eq_true rfl⟩) preEq rfl rfl hl.1 rfl (lv_room (Nat.le_of_ble_eq_true rfl)) d_MO_throughTwo_39 ⟨Nat.zero_le _, Nat.zero_le _⟩) ?_
      refine lv_if_ge (tgt := 47) hx hb d_MO_throughTwo_42 (by decide) (fun hc => ?_) (fun hc => ?_)
      · replace h := ifP h hc
        refine lv_aload_n hx hb d_MO_throughTwo_47 rfl (lv_at hl 1 rfl) ?_
        refine g_MO_first hX t_425 hWd hv0 d_MO_throughTwo_48 ?_
        refine lv_lconst (v := 1) hx hb d_MO_throughTwo_51 (by decide) ?_
        refine lv_land hx hb d_MO_throughTwo_52 ?_
        refine lv_lconst (v := 1) hx hb d_MO_throughTwo_53 (by decide) ?_
        refine W.lcmp hx hb d_MO_throughTwo_54 ?_
        refine lv_if_ne (tgt := 80) hx hb d_MO_throughTwo_55 (by decide) (fun hc => ?_) (fun hc => ?_)
        · replace h := ifN h hc
          refine lv_aload_n hx hb d_MO_throughTwo_80 rfl (lv_at hl 1 rfl) ?_
          refine g_MO_path hX t_428 hWd hv0 d_MO_throughTwo_81 ?_
          refine lv_iload_n hx hb d_MO_throughTwo_84 rfl (lv_at hl 0 rfl) ?_
          refine kp_z (va_runS (As := [.int (gi M v0 16), .int (-1)]) (rest := []) hX (m_MO_begins l  (gi M v0 16) (-1) rfl) (cb_MO_begins hts t_509 ⟨Nat.le_of_ble_eq_true rfl, Nat.le_of_ble_eq_true rfl⟩) preEq rfl rfl hl.1 rfl (lv_room (Nat.le_of_ble_eq_true rfl)) d_MO_throughTwo_85 ⟨Nat.zero_le _, Nat.zero_le _⟩) (fun z1 => ?_)
          refine lv_if_ne (tgt := 98) hx hb d_MO_throughTwo_88 (by decide) (fun hc => ?_) (fun hc => ?_)
          · replace h := ifN h hc
            refine lv_aload_n hx hb d_MO_throughTwo_98 rfl (lv_at hl 1 rfl) ?_
            refine lv_aload_n hx hb d_MO_throughTwo_99 rfl (lv_at hl 1 rfl) ?_
            refine g_MO_path hX t_428 hWd hv0 d_MO_throughTwo_100 ?_
            refine lv_iload_n hx hb d_MO_throughTwo_103 rfl (lv_at hl 0 rfl) ?_
            refine kp_i (va_runS (As := [.int (gi M v0 16), .int (-1)]) (rest := [.ref v0]) hX (m_MO_behind l  (gi M v0 16) (-1) rfl) (cb_MO_behind hts t_533 ⟨Nat.le_of_ble_eq_true rfl, Nat.le_of_ble_eq_true rfl⟩) preEq rfl rfl hl.1 rfl (lv_room (Nat.le_of_ble_eq_true rfl)) d_MO_throughTwo_104 ⟨Nat.zero_le _, Nat.zero_le _⟩) ?_
            refine p_MO_path hX t_428 hWd hv0 d_MO_throughTwo_107 (fun H locs hWd => ?_)
            obtain ⟨M2, eM2, h⟩ := stE h
            rw [← eM2] at hWd
            refine lv_aload_n hx hb d_MO_throughTwo_110 rfl (lv_at hl 1 rfl) ?_
            refine lv_aload_n hx hb d_MO_throughTwo_111 rfl (lv_at hl 1 rfl) ?_
            refine g_MO_second hX t_426 hWd hv0 d_MO_throughTwo_112 ?_
            refine p_MO_first hX t_425 hWd hv0 d_MO_throughTwo_115 (fun H locs hWd => ?_)
            obtain ⟨M3, eM3, h⟩ := stE h
            rw [← eM3] at hWd
            refine lv_aload_n hx hb d_MO_throughTwo_118 rfl (lv_at hl 1 rfl) ?_
            refine lv_iconst (v := 1) hx hb d_MO_throughTwo_119 (by decide) ?_
            refine p_MO_count hX t_427 hWd hv0 d_MO_throughTwo_120 (fun H locs hWd => ?_)
            obtain ⟨M4, eM4, h⟩ := stE h
            rw [← eM4] at hWd
            refine lv_iconst (v := 0) hx hb d_MO_throughTwo_123 (by decide) ?_
            subst h
            exact e_iret hX hr hlk hWd d_MO_throughTwo_124
          · replace h := ifP h hc
            refine lv_aload_n hx hb d_MO_throughTwo_91 rfl (lv_at hl 1 rfl) ?_
            refine lv_lconst (v := 0) hx hb d_MO_throughTwo_92 (by decide) ?_
            refine p_MO_first hX t_425 hWd hv0 d_MO_throughTwo_93 (fun H locs hWd => ?_)
            obtain ⟨M5, eM5, h⟩ := stE h
            rw [← eM5] at hWd
            refine lv_iconst (v := 1) hx hb d_MO_throughTwo_96 (by decide) ?_
            subst h
            exact e_iret hX hr hlk hWd d_MO_throughTwo_97
        · replace h := ifP h hc
          refine lv_aload_n hx hb d_MO_throughTwo_58 rfl (lv_at hl 1 rfl) ?_
          refine lv_iload_n hx hb d_MO_throughTwo_59 rfl (lv_at hl 0 rfl) ?_
          refine lv_aload_n hx hb d_MO_throughTwo_60 rfl (lv_at hl 1 rfl) ?_
          refine g_MO_path hX t_428 hWd hv0 d_MO_throughTwo_61 ?_
          refine lv_icmp_ne (tgt := 74) hx hb d_MO_throughTwo_64 (by decide) (fun hc => ?_) (fun hc => ?_)
          · replace h := ifN h hc
            refine lv_lconst (v := 0) hx hb d_MO_throughTwo_74 (by decide) ?_
            refine p_MO_first hX t_425 hWd hv0 d_MO_throughTwo_75 (fun H locs hWd => ?_)
            obtain ⟨M6, eM6, h⟩ := stE h
            rw [← eM6] at hWd
            refine lv_iconst (v := 1) hx hb d_MO_throughTwo_78 (by decide) ?_
            subst h
            exact e_iret hX hr hlk hWd d_MO_throughTwo_79
          · replace h := ifP h hc
            refine lv_aload_n hx hb d_MO_throughTwo_67 rfl (lv_at hl 1 rfl) ?_
            refine g_MO_second hX t_426 hWd hv0 d_MO_throughTwo_68 ?_
            refine lv_goto (tgt := 75) hx hb d_MO_throughTwo_71 (by decide) ?_
            refine p_MO_first hX t_425 hWd hv0 d_MO_throughTwo_75 (fun H locs hWd => ?_)
            obtain ⟨M7, eM7, h⟩ := stE h
            rw [← eM7] at hWd
            refine lv_iconst (v := 1) hx hb d_MO_throughTwo_78 (by decide) ?_
            subst h
            exact e_iret hX hr hlk hWd d_MO_throughTwo_79
      · replace h := ifN h hc
        refine lv_iconst (v := (-1)) hx hb d_MO_throughTwo_45 (by decide) ?_
        subst h
        exact e_iret hX hr hlk hWd d_MO_throughTwo_46
  · replace h := ifN h hc
    refine lv_aload_n hx hb d_MO_throughTwo_11 rfl (lv_at hl 0 rfl) ?_
    refine g_MO_first hX t_425 hWd hv0 d_MO_throughTwo_12 ?_
    refine lv_ldc2 (v := 262143) hx hb hown (hts _ (List.mem_cons_of_mem _ t_652)) d_MO_throughTwo_15 ?_
    refine W.lcmp hx hb d_MO_throughTwo_18 ?_
    refine lv_if_le (tgt := 26) hx hb d_MO_throughTwo_19 (by decide) (fun hc => ?_) (fun hc => ?_)
    · replace h := ifP h hc
      refine lv_aload_n hx hb d_MO_throughTwo_26 rfl (lv_at hl 0 rfl) ?_
      refine g_MO_first hX t_425 hWd hv0 d_MO_throughTwo_27 ?_
      refine lv_iconst (v := 1) hx hb d_MO_throughTwo_30 (by decide) ?_
      refine lv_lshr hx hb d_MO_throughTwo_31 rfl ?_
      refine lv_l2i hx hb d_MO_throughTwo_32 rfl ?_
      refine lv_topi (fun x8 ex8 => ?_)
      replace h := stA h ex8
      refine lv_istore_n (lv' := [(1, .int x8), (0, .ref v0)]) hx hb d_MO_throughTwo_33 rfl hl (by decide) rfl (fun ls hl => ?_)
      refine lv_iload_n hx hb d_MO_throughTwo_34 rfl (lv_at hl 0 rfl) ?_
      refine lv_if_lt (tgt := 45) hx hb d_MO_throughTwo_35 (by decide) (fun hc => ?_) (fun hc => ?_)
      · replace h := ifP h hc
        refine lv_iconst (v := (-1)) hx hb d_MO_throughTwo_45 (by decide) ?_
        subst h
        exact e_iret hX hr hlk hWd d_MO_throughTwo_46
      · replace h := ifN h hc
        refine lv_iload_n hx hb d_MO_throughTwo_38 rfl (lv_at hl 0 rfl) ?_
        refine kp_i (va_runS (As := [.int x8]) (rest := []) hX (m_MO_nibbles l  x8 rfl) (cb_MO_nibbles hts t_468 ⟨Nat.le_of_ble_eq_true rfl, Nat.le_of_ble_eq_true rfl⟩) preEq rfl rfl hl.1 rfl (lv_room (Nat.le_of_ble_eq_true rfl)) d_MO_throughTwo_39 ⟨Nat.zero_le _, Nat.zero_le _⟩) ?_
        refine lv_if_ge (tgt := 47) hx hb d_MO_throughTwo_42 (by decide) (fun hc => ?_) (fun hc => ?_)
        · replace h := ifP h hc
          refine lv_aload_n hx hb d_MO_throughTwo_47 rfl (lv_at hl 1 rfl) ?_
          refine g_MO_first hX t_425 hWd hv0 d_MO_throughTwo_48 ?_
          refine lv_lconst (v := 1) hx hb d_MO_throughTwo_51 (by decide) ?_
          refine lv_land hx hb d_MO_throughTwo_52 ?_
          refine lv_lconst (v := 1) hx hb d_MO_throughTwo_53 (by decide) ?_
          refine W.lcmp hx hb d_MO_throughTwo_54 ?_
          refine lv_if_ne (tgt := 80) hx hb d_MO_throughTwo_55 (by decide) (fun hc => ?_) (fun hc => ?_)
          · replace h := ifN h hc
            refine lv_aload_n hx hb d_MO_throughTwo_80 rfl (lv_at hl 1 rfl) ?_
            refine g_MO_path hX t_428 hWd hv0 d_MO_throughTwo_81 ?_
            refine lv_iload_n hx hb d_MO_throughTwo_84 rfl (lv_at hl 0 rfl) ?_
            refine kp_z (va_runS (As := [.int (gi M v0 16), .int x8]) (rest := []) hX (m_MO_begins l  (gi M v0 16) x8 rfl) (cb_MO_begins hts t_509 ⟨Nat.le_of_ble_eq_true rfl, Nat.le_of_ble_eq_true rfl⟩) preEq rfl rfl hl.1 rfl (lv_room (Nat.le_of_ble_eq_true rfl)) d_MO_throughTwo_85 ⟨Nat.zero_le _, Nat.zero_le _⟩) (fun z9 => ?_)
            refine lv_if_ne (tgt := 98) hx hb d_MO_throughTwo_88 (by decide) (fun hc => ?_) (fun hc => ?_)
            · replace h := ifN h hc
              refine lv_aload_n hx hb d_MO_throughTwo_98 rfl (lv_at hl 1 rfl) ?_
              refine lv_aload_n hx hb d_MO_throughTwo_99 rfl (lv_at hl 1 rfl) ?_
              refine g_MO_path hX t_428 hWd hv0 d_MO_throughTwo_100 ?_
              refine lv_iload_n hx hb d_MO_throughTwo_103 rfl (lv_at hl 0 rfl) ?_
              refine kp_i (va_runS (As := [.int (gi M v0 16), .int x8]) (rest := [.ref v0]) hX (m_MO_behind l  (gi M v0 16) x8 rfl) (cb_MO_behind hts t_533 ⟨Nat.le_of_ble_eq_true rfl, Nat.le_of_ble_eq_true rfl⟩) preEq rfl rfl hl.1 rfl (lv_room (Nat.le_of_ble_eq_true rfl)) d_MO_throughTwo_104 ⟨Nat.zero_le _, Nat.zero_le _⟩) ?_
              refine p_MO_path hX t_428 hWd hv0 d_MO_throughTwo_107 (fun H locs hWd => ?_)
              obtain ⟨M10, eM10, h⟩ := stE h
              rw [← eM10] at hWd
              refine lv_aload_n hx hb d_MO_throughTwo_110 rfl (lv_at hl 1 rfl) ?_
              refine lv_aload_n hx hb d_MO_throughTwo_111 rfl (lv_at hl 1 rfl) ?_
              refine g_MO_second hX t_426 hWd hv0 d_MO_throughTwo_112 ?_
              refine p_MO_first hX t_425 hWd hv0 d_MO_throughTwo_115 (fun H locs hWd => ?_)
              obtain ⟨M11, eM11, h⟩ := stE h
              rw [← eM11] at hWd
              refine lv_aload_n hx hb d_MO_throughTwo_118 rfl (lv_at hl 1 rfl) ?_
              refine lv_iconst (v := 1) hx hb d_MO_throughTwo_119 (by decide) ?_
              refine p_MO_count hX t_427 hWd hv0 d_MO_throughTwo_120 (fun H locs hWd => ?_)
              obtain ⟨M12, eM12, h⟩ := stE h
              rw [← eM12] at hWd
              refine lv_iconst (v := 0) hx hb d_MO_throughTwo_123 (by decide) ?_
              subst h
              exact e_iret hX hr hlk hWd d_MO_throughTwo_124
            · replace h := ifP h hc
              refine lv_aload_n hx hb d_MO_throughTwo_91 rfl (lv_at hl 1 rfl) ?_
              refine lv_lconst (v := 0) hx hb d_MO_throughTwo_92 (by decide) ?_
              refine p_MO_first hX t_425 hWd hv0 d_MO_throughTwo_93 (fun H locs hWd => ?_)
              obtain ⟨M13, eM13, h⟩ := stE h
              rw [← eM13] at hWd
              refine lv_iconst (v := 1) hx hb d_MO_throughTwo_96 (by decide) ?_
              subst h
              exact e_iret hX hr hlk hWd d_MO_throughTwo_97
          · replace h := ifP h hc
            refine lv_aload_n hx hb d_MO_throughTwo_58 rfl (lv_at hl 1 rfl) ?_
            refine lv_iload_n hx hb d_MO_throughTwo_59 rfl (lv_at hl 0 rfl) ?_
            refine lv_aload_n hx hb d_MO_throughTwo_60 rfl (lv_at hl 1 rfl) ?_
            refine g_MO_path hX t_428 hWd hv0 d_MO_throughTwo_61 ?_
            refine lv_icmp_ne (tgt := 74) hx hb d_MO_throughTwo_64 (by decide) (fun hc => ?_) (fun hc => ?_)
            · replace h := ifN h hc
              refine lv_lconst (v := 0) hx hb d_MO_throughTwo_74 (by decide) ?_
              refine p_MO_first hX t_425 hWd hv0 d_MO_throughTwo_75 (fun H locs hWd => ?_)
              obtain ⟨M14, eM14, h⟩ := stE h
              rw [← eM14] at hWd
              refine lv_iconst (v := 1) hx hb d_MO_throughTwo_78 (by decide) ?_
              subst h
              exact e_iret hX hr hlk hWd d_MO_throughTwo_79
            · replace h := ifP h hc
              refine lv_aload_n hx hb d_MO_throughTwo_67 rfl (lv_at hl 1 rfl) ?_
              refine g_MO_second hX t_426 hWd hv0 d_MO_throughTwo_68 ?_
              refine lv_goto (tgt := 75) hx hb d_MO_throughTwo_71 (by decide) ?_
              refine p_MO_first hX t_425 hWd hv0 d_MO_throughTwo_75 (fun H locs hWd => ?_)
              obtain ⟨M15, eM15, h⟩ := stE h
              rw [← eM15] at hWd
              refine lv_iconst (v := 1) hx hb d_MO_throughTwo_78 (by decide) ?_
              subst h
              exact e_iret hX hr hlk hWd d_MO_throughTwo_79
        · replace h := ifN h hc
          refine lv_iconst (v := (-1)) hx hb d_MO_throughTwo_45 (by decide) ?_
          subst h
          exact e_iret hX hr hlk hWd d_MO_throughTwo_46
    · replace h := ifN h hc
      refine lv_iconst (v := (-1)) hx hb d_MO_throughTwo_22 (by decide) ?_
      refine lv_goto (tgt := 33) hx hb d_MO_throughTwo_23 (by decide) ?_
      refine lv_istore_n (lv' := [(1, .int (-1)), (0, .ref v0)]) hx hb d_MO_throughTwo_33 rfl hl (by decide) rfl (fun ls hl => ?_)
      refine lv_iload_n hx hb d_MO_throughTwo_34 rfl (lv_at hl 0 rfl) ?_
      refine lv_if_lt (tgt := 45) hx hb d_MO_throughTwo_35 (by decide) (fun hc => ?_) (fun hc => ?_)
      · replace h := ifP h hc
        refine lv_iconst (v := (-1)) hx hb d_MO_throughTwo_45 (by decide) ?_
        subst h
        exact e_iret hX hr hlk hWd d_MO_throughTwo_46
      · replace h := ifN h hc
        refine lv_iload_n hx hb d_MO_throughTwo_38 rfl (lv_at hl 0 rfl) ?_
        refine kp_i (va_runS (As := [.int (-1)]) (rest := []) hX (m_MO_nibbles l  (-1) rfl) (cb_MO_nibbles hts t_468 ⟨Nat.le_of_ble_eq_true rfl, Nat.le_of_ble_eq_true rfl⟩) preEq rfl rfl hl.1 rfl (lv_room (Nat.le_of_ble_eq_true rfl)) d_MO_throughTwo_39 ⟨Nat.zero_le _, Nat.zero_le _⟩) ?_
        refine lv_if_ge (tgt := 47) hx hb d_MO_throughTwo_42 (by decide) (fun hc => ?_) (fun hc => ?_)
        · replace h := ifP h hc
          refine lv_aload_n hx hb d_MO_throughTwo_47 rfl (lv_at hl 1 rfl) ?_
          refine g_MO_first hX t_425 hWd hv0 d_MO_throughTwo_48 ?_
          refine lv_lconst (v := 1) hx hb d_MO_throughTwo_51 (by decide) ?_
          refine lv_land hx hb d_MO_throughTwo_52 ?_
          refine lv_lconst (v := 1) hx hb d_MO_throughTwo_53 (by decide) ?_
          refine W.lcmp hx hb d_MO_throughTwo_54 ?_
          refine lv_if_ne (tgt := 80) hx hb d_MO_throughTwo_55 (by decide) (fun hc => ?_) (fun hc => ?_)
          · replace h := ifN h hc
            refine lv_aload_n hx hb d_MO_throughTwo_80 rfl (lv_at hl 1 rfl) ?_
            refine g_MO_path hX t_428 hWd hv0 d_MO_throughTwo_81 ?_
            refine lv_iload_n hx hb d_MO_throughTwo_84 rfl (lv_at hl 0 rfl) ?_
            refine kp_z (va_runS (As := [.int (gi M v0 16), .int (-1)]) (rest := []) hX (m_MO_begins l  (gi M v0 16) (-1) rfl) (cb_MO_begins hts t_509 ⟨Nat.le_of_ble_eq_true rfl, Nat.le_of_ble_eq_true rfl⟩) preEq rfl rfl hl.1 rfl (lv_room (Nat.le_of_ble_eq_true rfl)) d_MO_throughTwo_85 ⟨Nat.zero_le _, Nat.zero_le _⟩) (fun z16 => ?_)
            refine lv_if_ne (tgt := 98) hx hb d_MO_throughTwo_88 (by decide) (fun hc => ?_) (fun hc => ?_)
            · replace h := ifN h hc
              refine lv_aload_n hx hb d_MO_throughTwo_98 rfl (lv_at hl 1 rfl) ?_
              refine lv_aload_n hx hb d_MO_throughTwo_99 rfl (lv_at hl 1 rfl) ?_
              refine g_MO_path hX t_428 hWd hv0 d_MO_throughTwo_100 ?_
              refine lv_iload_n hx hb d_MO_throughTwo_103 rfl (lv_at hl 0 rfl) ?_
              refine kp_i (va_runS (As := [.int (gi M v0 16), .int (-1)]) (rest := [.ref v0]) hX (m_MO_behind l  (gi M v0 16) (-1) rfl) (cb_MO_behind hts t_533 ⟨Nat.le_of_ble_eq_true rfl, Nat.le_of_ble_eq_true rfl⟩) preEq rfl rfl hl.1 rfl (lv_room (Nat.le_of_ble_eq_true rfl)) d_MO_throughTwo_104 ⟨Nat.zero_le _, Nat.zero_le _⟩) ?_
              refine p_MO_path hX t_428 hWd hv0 d_MO_throughTwo_107 (fun H locs hWd => ?_)
              obtain ⟨M17, eM17, h⟩ := stE h
              rw [← eM17] at hWd
              refine lv_aload_n hx hb d_MO_throughTwo_110 rfl (lv_at hl 1 rfl) ?_
              refine lv_aload_n hx hb d_MO_throughTwo_111 rfl (lv_at hl 1 rfl) ?_
              refine g_MO_second hX t_426 hWd hv0 d_MO_throughTwo_112 ?_
              refine p_MO_first hX t_425 hWd hv0 d_MO_throughTwo_115 (fun H locs hWd => ?_)
              obtain ⟨M18, eM18, h⟩ := stE h
              rw [← eM18] at hWd
              refine lv_aload_n hx hb d_MO_throughTwo_118 rfl (lv_at hl 1 rfl) ?_
              refine lv_iconst (v := 1) hx hb d_MO_throughTwo_119 (by decide) ?_
              refine p_MO_count hX t_427 hWd hv0 d_MO_throughTwo_120 (fun H locs hWd => ?_)
              obtain ⟨M19, eM19, h⟩ := stE h
              rw [← eM19] at hWd
              refine lv_iconst (v := 0) hx hb d_MO_throughTwo_123 (by decide) ?_
              subst h
              exact e_iret hX hr hlk hWd d_MO_throughTwo_124
            · replace h := ifP h hc
              refine lv_aload_n hx hb d_MO_throughTwo_91 rfl (lv_at hl 1 rfl) ?_
              refine lv_lconst (v := 0) hx hb d_MO_throughTwo_92 (by decide) ?_
              refine p_MO_first hX t_425 hWd hv0 d_MO_throughTwo_93 (fun H locs hWd => ?_)
              obtain ⟨M20, eM20, h⟩ := stE h
              rw [← eM20] at hWd
              refine lv_iconst (v := 1) hx hb d_MO_throughTwo_96 (by decide) ?_
              subst h
              exact e_iret hX hr hlk hWd d_MO_throughTwo_97
          · replace h := ifP h hc
            refine lv_aload_n hx hb d_MO_throughTwo_58 rfl (lv_at hl 1 rfl) ?_
            refine lv_iload_n hx hb d_MO_throughTwo_59 rfl (lv_at hl 0 rfl) ?_
            refine lv_aload_n hx hb d_MO_throughTwo_60 rfl (lv_at hl 1 rfl) ?_
            refine g_MO_path hX t_428 hWd hv0 d_MO_throughTwo_61 ?_
            refine lv_icmp_ne (tgt := 74) hx hb d_MO_throughTwo_64 (by decide) (fun hc => ?_) (fun hc => ?_)
            · replace h := ifN h hc
              refine lv_lconst (v := 0) hx hb d_MO_throughTwo_74 (by decide) ?_
              refine p_MO_first hX t_425 hWd hv0 d_MO_throughTwo_75 (fun H locs hWd => ?_)
              obtain ⟨M21, eM21, h⟩ := stE h
              rw [← eM21] at hWd
              refine lv_iconst (v := 1) hx hb d_MO_throughTwo_78 (by decide) ?_
              subst h
              exact e_iret hX hr hlk hWd d_MO_throughTwo_79
            · replace h := ifP h hc
              refine lv_aload_n hx hb d_MO_throughTwo_67 rfl (lv_at hl 1 rfl) ?_
              refine g_MO_second hX t_426 hWd hv0 d_MO_throughTwo_68 ?_
              refine lv_goto (tgt := 75) hx hb d_MO_throughTwo_71 (by decide) ?_
              refine p_MO_first hX t_425 hWd hv0 d_MO_throughTwo_75 (fun H locs hWd => ?_)
              obtain ⟨M22, eM22, h⟩ := stE h
              rw [← eM22] at hWd
              refine lv_iconst (v := 1) hx hb d_MO_throughTwo_78 (by decide) ?_
              subst h
              exact e_iret hX hr hlk hWd d_MO_throughTwo_79
        · replace h := ifN h hc
          refine lv_iconst (v := (-1)) hx hb d_MO_throughTwo_45 (by decide) ?_
          subst h
          exact e_iret hX hr hlk hWd d_MO_throughTwo_46
set_option maxHeartbeats 4000000 in
set_option maxRecDepth 100000 in
theorem w_MO_verify_82 {p : Program} {l : Launch} {e : Env} {s : State} {m : MethodId} {args : Array Value} {below : List Frame} {meth : Method} {c : Code} {E : En} {K G : Nat → Nat} {L : List Nat} (hX : CallFix p m c b_MO_verify 8 s args w_MO_verify "NibbleTrieModel") (hr : meth.sig.returnType = (some .boolean)) (hlk : meth.locks = false) {out : Int32 × Mm} : ∀ (n : Nat) (v0 : Nat) (v4 : Int32) (v6 : Int32) (v7 : Int32) (M : Mm) (H : Heap) (locs : List Loc) (ls : Array Slot), K v0 = 9 → lv_has ls 8 [(0, .ref v0), (4, .int v4), (6, .int v6), (7, .int v7)] → Wd E K G L M s.heap H locs s → f_MO_verify_82 G n v0 v4 v6 v7 M = some out → W p l e rm_MO_verify s m args below meth c H locs 0 0 (MQ below (QZ E K G L s.heap.size out.1 out.2) args s 0 0 (AL L s.heap.size)) (F0 m 82 ls []) := by
  have hx := hX.1
  have hb := hX.2.1
  have hown := hX.2.2.2.1
  have hts := hX.2.2.2.2
  intro n
  induction n with
  | zero => intro _ _ _ _ _ _ _ _ _ _ _ h; rw [f_MO_verify_82] at h; cases h
  | succ n ih =>
    intro v0 v4 v6 v7 M H locs ls hv0 hl hWd h
    rw [f_MO_verify_82] at h
    refine lv_iload hx hb d_MO_verify_82 (lv_at hl 3 rfl) ?_
    refine lv_bipush (v := 64) hx hb d_MO_verify_84 (by decide) ?_
    refine lv_icmp_ge (tgt := 139) hx hb d_MO_verify_86 (by decide) (fun hc => ?_) (fun hc => ?_)
    · replace h := ifP h hc
      refine lv_iload hx hb d_MO_verify_139 (lv_at hl 2 rfl) ?_
      refine lv_iconst (v := 1) hx hb d_MO_verify_141 (by decide) ?_
      refine lv_icmp_ne (tgt := 171) hx hb d_MO_verify_142 (by decide) (fun hc => ?_) (fun hc => ?_)
      · replace h := ifN h hc
        refine lv_iconst (v := 0) hx hb d_MO_verify_171 (by decide) ?_
        obtain rfl := Option.some.inj h
        exact e_zret hX hr hlk hWd (Or.inl rfl) d_MO_verify_172
      · replace h := ifP h hc
        refine lv_aload_n hx hb d_MO_verify_145 rfl (lv_at hl 0 rfl) ?_
        refine g_MO_at hX t_424 hWd hv0 d_MO_verify_146 ?_
        refine lv_aload_n hx hb d_MO_verify_149 rfl (lv_at hl 0 rfl) ?_
        refine g_MO_proofLength hX t_423 hWd hv0 d_MO_verify_150 ?_
        refine lv_icmp_ne (tgt := 171) hx hb d_MO_verify_153 (by decide) (fun hc => ?_) (fun hc => ?_)
        · replace h := ifN h hc
          refine lv_iconst (v := 0) hx hb d_MO_verify_171 (by decide) ?_
          obtain rfl := Option.some.inj h
          exact e_zret hX hr hlk hWd (Or.inl rfl) d_MO_verify_172
        · replace h := ifP h hc
          refine lv_aload_n hx hb d_MO_verify_156 rfl (lv_at hl 0 rfl) ?_
          refine g_MO_first hX t_425 hWd hv0 d_MO_verify_157 ?_
          refine lv_iload hx hb d_MO_verify_160 (lv_at hl 1 rfl) ?_
          refine lv_i2l hx hb d_MO_verify_162 rfl ?_
          refine W.lcmp hx hb d_MO_verify_163 ?_
          refine lv_if_ne (tgt := 171) hx hb d_MO_verify_164 (by decide) (fun hc => ?_) (fun hc => ?_)
          · replace h := ifN h hc
            refine lv_iconst (v := 0) hx hb d_MO_verify_171 (by decide) ?_
            obtain rfl := Option.some.inj h
            exact e_zret hX hr hlk hWd (Or.inl rfl) d_MO_verify_172
          · replace h := ifP h hc
            refine lv_iconst (v := 1) hx hb d_MO_verify_167 (by decide) ?_
            refine lv_goto (tgt := 172) hx hb d_MO_verify_168 (by decide) ?_
            obtain rfl := Option.some.inj h
            exact e_zret hX hr hlk hWd (Or.inr rfl) d_MO_verify_172
    · replace h := ifN h hc
      refine lv_iload hx hb d_MO_verify_89 (lv_at hl 2 rfl) ?_
      refine lv_if_ne (tgt := 139) hx hb d_MO_verify_91 (by decide) (fun hc => ?_) (fun hc => ?_)
      · replace h := ifN h hc
        refine lv_iload hx hb d_MO_verify_139 (lv_at hl 2 rfl) ?_
        refine lv_iconst (v := 1) hx hb d_MO_verify_141 (by decide) ?_
        refine lv_icmp_ne (tgt := 171) hx hb d_MO_verify_142 (by decide) (fun hc => ?_) (fun hc => ?_)
        · replace h := ifN h hc
          refine lv_iconst (v := 0) hx hb d_MO_verify_171 (by decide) ?_
          obtain rfl := Option.some.inj h
          exact e_zret hX hr hlk hWd (Or.inl rfl) d_MO_verify_172
        · replace h := ifP h hc
          refine lv_aload_n hx hb d_MO_verify_145 rfl (lv_at hl 0 rfl) ?_
          refine g_MO_at hX t_424 hWd hv0 d_MO_verify_146 ?_
          refine lv_aload_n hx hb d_MO_verify_149 rfl (lv_at hl 0 rfl) ?_
          refine g_MO_proofLength hX t_423 hWd hv0 d_MO_verify_150 ?_
          refine lv_icmp_ne (tgt := 171) hx hb d_MO_verify_153 (by decide) (fun hc => ?_) (fun hc => ?_)
          · replace h := ifN h hc
            refine lv_iconst (v := 0) hx hb d_MO_verify_171 (by decide) ?_
            obtain rfl := Option.some.inj h
            exact e_zret hX hr hlk hWd (Or.inl rfl) d_MO_verify_172
          · replace h := ifP h hc
            refine lv_aload_n hx hb d_MO_verify_156 rfl (lv_at hl 0 rfl) ?_
            refine g_MO_first hX t_425 hWd hv0 d_MO_verify_157 ?_
            refine lv_iload hx hb d_MO_verify_160 (lv_at hl 1 rfl) ?_
            refine lv_i2l hx hb d_MO_verify_162 rfl ?_
            refine W.lcmp hx hb d_MO_verify_163 ?_
            refine lv_if_ne (tgt := 171) hx hb d_MO_verify_164 (by decide) (fun hc => ?_) (fun hc => ?_)
            · replace h := ifN h hc
              refine lv_iconst (v := 0) hx hb d_MO_verify_171 (by decide) ?_
              obtain rfl := Option.some.inj h
              exact e_zret hX hr hlk hWd (Or.inl rfl) d_MO_verify_172
            · replace h := ifP h hc
              refine lv_iconst (v := 1) hx hb d_MO_verify_167 (by decide) ?_
              refine lv_goto (tgt := 172) hx hb d_MO_verify_168 (by decide) ?_
              obtain rfl := Option.some.inj h
              exact e_zret hX hr hlk hWd (Or.inr rfl) d_MO_verify_172
      · replace h := ifP h hc
        refine lv_aload_n hx hb d_MO_verify_94 rfl (lv_at hl 0 rfl) ?_
        refine g_MO_count hX t_427 hWd hv0 d_MO_verify_95 ?_
        refine lv_if_ne (tgt := 112) hx hb d_MO_verify_98 (by decide) (fun hc => ?_) (fun hc => ?_)
        · replace h := ifN h hc
          refine lv_aload_n hx hb d_MO_verify_112 rfl (lv_at hl 0 rfl) ?_
          refine g_MO_count hX t_427 hWd hv0 d_MO_verify_113 ?_
          refine lv_iconst (v := 2) hx hb d_MO_verify_116 (by decide) ?_
          refine lv_icmp_ne (tgt := 127) hx hb d_MO_verify_117 (by decide) (fun hc => ?_) (fun hc => ?_)
          · replace h := ifN h hc
            refine lv_aload_n hx hb d_MO_verify_127 rfl (lv_at hl 0 rfl) ?_
            obtain ⟨q1, hq1, h⟩ := ob h
            refine kc_i (va_runV (As := []) (rest := []) hX (m_MO_throughBranch l  v0 hv0 hq1) (cb_MO_throughBranch hts t_653 ⟨Nat.le_of_ble_eq_true rfl, Nat.le_of_ble_eq_true rfl⟩) (pv_MO hWd hv0) rfl rfl hl.1 rfl (lv_room (Nat.le_of_ble_eq_true rfl)) d_MO_verify_128 ⟨Nat.zero_le _, Nat.zero_le _⟩) hWd (fun H locs hWd => ?_)
            refine lv_istore (lv' := [(6, .int q1.1), (0, .ref v0), (4, .int v4), (7, .int v7)]) hx hb d_MO_verify_131 hl (by decide) rfl (fun ls hl => ?_)
            refine lv_iinc (k := 3) (v := (v7 + 1)) (lv' := [(7, .int (v7 + 1)), (6, .int q1.1), (0, .ref v0), (4, .int v4)]) hx hb d_MO_verify_133 hl rfl (by rfl) (by decide) rfl (fun ls hl => ?_)
            refine lv_goto (tgt := 82) hx hb d_MO_verify_136 (by decide) ?_
            exact ih v0 v4 q1.1 (v7 + 1) q1.2 _ _ _ hv0 (lv_sub hl [2, 3, 1, 0] rfl) hWd h
          · replace h := ifP h hc
            refine lv_aload_n hx hb d_MO_verify_120 rfl (lv_at hl 0 rfl) ?_
            obtain ⟨q2, hq2, h⟩ := stE h
            refine kc_i (va_runV (As := []) (rest := []) hX (m_MO_throughTwo l  v0 hv0 hq2.symm) (cb_MO_throughTwo hts t_647 ⟨Nat.le_of_ble_eq_true rfl, Nat.le_of_ble_eq_true rfl⟩) (pv_MO hWd hv0) rfl rfl hl.1 rfl (lv_room (Nat.le_of_ble_eq_true rfl)) d_MO_verify_121 ⟨Nat.zero_le _, Nat.zero_le _⟩) hWd (fun H locs hWd => ?_)
            refine lv_goto (tgt := 131) hx hb d_MO_verify_124 (by decide) ?_
            refine lv_istore (lv' := [(6, .int q2.1), (0, .ref v0), (4, .int v4), (7, .int v7)]) hx hb d_MO_verify_131 hl (by decide) rfl (fun ls hl => ?_)
            refine lv_iinc (k := 3) (v := (v7 + 1)) (lv' := [(7, .int (v7 + 1)), (6, .int q2.1), (0, .ref v0), (4, .int v4)]) hx hb d_MO_verify_133 hl rfl (by rfl) (by decide) rfl (fun ls hl => ?_)
            refine lv_goto (tgt := 82) hx hb d_MO_verify_136 (by decide) ?_
            exact ih v0 v4 q2.1 (v7 + 1) q2.2 _ _ _ hv0 (lv_sub hl [2, 3, 1, 0] rfl) hWd h
        · replace h := ifP h hc
          refine lv_aload_n hx hb d_MO_verify_101 rfl (lv_at hl 0 rfl) ?_
          refine lv_lconst (v := 0) hx hb d_MO_verify_102 (by decide) ?_
          refine p_MO_first hX t_425 hWd hv0 d_MO_verify_103 (fun H locs hWd => ?_)
          obtain ⟨M3, eM3, h⟩ := stE h
          rw [← eM3] at hWd
          refine lv_iconst (v := 1) hx hb d_MO_verify_106 (by decide) ?_
          refine lv_istore (lv' := [(6, .int 1), (0, .ref v0), (4, .int v4), (7, .int v7)]) hx hb d_MO_verify_107 hl (by decide) rfl (fun ls hl => ?_)
          refine lv_goto (tgt := 133) hx hb d_MO_verify_109 (by decide) ?_
          refine lv_iinc (k := 3) (v := (v7 + 1)) (lv' := [(7, .int (v7 + 1)), (6, .int 1), (0, .ref v0), (4, .int v4)]) hx hb d_MO_verify_133 hl rfl (by rfl) (by decide) rfl (fun ls hl => ?_)
          refine lv_goto (tgt := 82) hx hb d_MO_verify_136 (by decide) ?_
          exact ih v0 v4 1 (v7 + 1) M3 _ _ _ hv0 (lv_sub hl [2, 3, 1, 0] rfl) hWd h
set_option maxHeartbeats 4000000 in
set_option maxRecDepth 100000 in
theorem m_MO_verify (l : Launch) {E : En} {K G : Nat → Nat} {L : List Nat} {M : Mm} {sz : Nat} {out : Int32 × Mm} (v0 : Nat) (v1 : Int64) (v3 : Int32) (v4 : Int32) (hv0 : K v0 = 9) (h : f_MO_verify G v0 v1 v3 v4 M = some out) : Met l y_MO_verify w_MO_verify rm_MO_verify (va_Pc [.ref v0, .long v1, .int v3, .int v4] (Wp E K G L M sz)) (QZ E K G L sz out.1 out.2) 0 0 (AL L sz) := by
  refine Met.ofW (cc := b_MO_verify) (maxL := 8) (ret := (some .boolean)) (by decide) rfl ?_
  intro p e s m av below meth c s₁ B hml hv
  obtain ⟨rfl, hWp⟩ := hv
  have hWd := Wd.start hWp
  obtain ⟨rfl, -⟩ := hWp
  have hX : CallFix p m c b_MO_verify 8 s _ w_MO_verify "NibbleTrieModel" := ⟨B.exec, B.bytes, hml, findClass_of_methodNamed B.named, atoms_spec (ws := w_MO_verify) B.pre⟩
  have hx := hX.1
  have hb := hX.2.1
  have hown := hX.2.2.2.1
  have hts := hX.2.2.2.2
  have hr := B.returns
  have hlk := B.notSynchronized
  have hl := lv_entry ([.ref v0, .long v1, .int v3, .int v4]) (n := 8) (Nat.le_of_ble_eq_true rfl)
  rw [lg_entry_eq]
  generalize (lg_sl ([.ref v0, .long v1, .int v3, .int v4]) ++ List.replicate (8 - (lg_sl ([.ref v0, .long v1, .int v3, .int v4])).length) Slot.unset).toArray = ls at hl ⊢
  have hl : lv_has ls 8 [(0, .ref v0), (1, .long v1), (3, .int v3), (4, .int v4)] := hl
  unfold f_MO_verify at h
  refine lv_iload_n hx hb d_MO_verify_0 rfl (lv_at hl 2 rfl) ?_
  refine kp_i (va_runS (As := [.int v3]) (rest := []) hX (m_MO_nibbles l  v3 rfl) (cb_MO_nibbles hts t_468 ⟨Nat.le_of_ble_eq_true rfl, Nat.le_of_ble_eq_true rfl⟩) preEq rfl rfl hl.1 rfl (lv_room (Nat.le_of_ble_eq_true rfl)) d_MO_verify_1 ⟨Nat.zero_le _, Nat.zero_le _⟩) ?_
  refine lv_if_lt (tgt := 26) hx hb d_MO_verify_4 (by decide) (fun hc => ?_) (fun hc => ?_)
  · replace h := ifP h hc
    refine lv_iconst (v := 0) hx hb d_MO_verify_26 (by decide) ?_
    obtain rfl := Option.some.inj h
    exact e_zret hX hr hlk hWd (Or.inl rfl) d_MO_verify_27
  · replace h := ifN h hc
    refine lv_aload_n hx hb d_MO_verify_7 rfl (lv_at hl 0 rfl) ?_
    refine g_MO_proofLength hX t_423 hWd hv0 d_MO_verify_8 ?_
    refine lv_if_eq (tgt := 26) hx hb d_MO_verify_11 (by decide) (fun hc => ?_) (fun hc => ?_)
    · replace h := ifP h hc
      refine lv_iconst (v := 0) hx hb d_MO_verify_26 (by decide) ?_
      obtain rfl := Option.some.inj h
      exact e_zret hX hr hlk hWd (Or.inl rfl) d_MO_verify_27
    · replace h := ifN h hc
      refine lv_aload_n hx hb d_MO_verify_14 rfl (lv_at hl 0 rfl) ?_
      refine g_MO_proof hX t_422 hWd hv0 d_MO_verify_15 ?_
      have q1 := v_MO_proof hWd hv0
      refine lv_iconst (v := 0) hx hb d_MO_verify_18 (by decide) ?_
      obtain ⟨j2, hj2, h⟩ := ob h
      refine r_lald hX hWd q1 hj2 d_MO_verify_19 ?_
      refine kp_z (va_runS (As := [.long (gl M (gr M v0 10) j2)]) (rest := []) hX (m_MO_few l  (gl M (gr M v0 10) j2) rfl) (cb_MO_few hts t_636 ⟨Nat.le_of_ble_eq_true rfl, Nat.le_of_ble_eq_true rfl⟩) preEq rfl rfl hl.1 rfl (lv_room (Nat.le_of_ble_eq_true rfl)) d_MO_verify_20 ⟨Nat.zero_le _, Nat.zero_le _⟩) (fun z3 => ?_)
      refine lv_if_ne (tgt := 28) hx hb d_MO_verify_23 (by decide) (fun hc => ?_) (fun hc => ?_)
      · replace h := ifN h hc
        refine lv_aload_n hx hb d_MO_verify_28 rfl (lv_at hl 0 rfl) ?_
        refine g_MO_proof hX t_422 hWd hv0 d_MO_verify_29 ?_
        have q4 := v_MO_proof hWd hv0
        refine lv_iconst (v := 0) hx hb d_MO_verify_32 (by decide) ?_
        obtain ⟨j5, hj5, h⟩ := ob h
        refine r_lald hX hWd q4 hj5 d_MO_verify_33 ?_
        refine lv_l2i hx hb d_MO_verify_34 rfl ?_
        refine lv_topi (fun x6 ex6 => ?_)
        replace h := stA h ex6
        refine lv_istore (lv' := [(5, .int x6), (0, .ref v0), (1, .long v1), (3, .int v3), (4, .int v4)]) hx hb d_MO_verify_35 hl (by decide) rfl (fun ls hl => ?_)
        refine lv_aload_n hx hb d_MO_verify_37 rfl (lv_at hl 1 rfl) ?_
        refine lv_iconst (v := 1) hx hb d_MO_verify_38 (by decide) ?_
        refine lv_iload hx hb d_MO_verify_39 (lv_at hl 0 rfl) ?_
        obtain ⟨q7, hq7, h⟩ := ob h
        refine kc_z (va_runV (As := [.int 1, .int x6]) (rest := []) hX (m_MO_refer l  v0 1 x6 hv0 hq7) (cb_MO_refer hts t_639 ⟨Nat.le_of_ble_eq_true rfl, Nat.le_of_ble_eq_true rfl⟩) (pv_MO hWd hv0) rfl rfl hl.1 rfl (lv_room (Nat.le_of_ble_eq_true rfl)) d_MO_verify_41 ⟨Nat.zero_le _, Nat.zero_le _⟩) hWd (fun z8 H locs hWd => ?_)
        refine lv_if_eq (tgt := 61) hx hb d_MO_verify_44 (by decide) (fun hc => ?_) (fun hc => ?_)
        · replace h := ifP h hc
          refine lv_iconst (v := 0) hx hb d_MO_verify_61 (by decide) ?_
          obtain rfl := Option.some.inj h
          exact e_zret hX hr hlk hWd (Or.inl rfl) d_MO_verify_62
        · replace h := ifN h hc
          refine lv_aload_n hx hb d_MO_verify_47 rfl (lv_at hl 1 rfl) ?_
          refine lv_iconst (v := 1) hx hb d_MO_verify_48 (by decide) ?_
          refine lv_iconst (v := 1) hx hb d_MO_verify_49 (by decide) ?_
          refine lv_iload hx hb d_MO_verify_50 (lv_at hl 0 rfl) ?_
          refine lv_iadd hx hb d_MO_verify_52 ?_
          obtain ⟨q9, hq9, h⟩ := ob h
          refine kc_l (va_runV (As := [.int 1, .int (1 + x6)]) (rest := []) hX (m_MO_digestOf l  v0 1 (1 + x6) hv0 hq9) (cb_MO_digestOf hts t_643 ⟨Nat.le_of_ble_eq_true rfl, Nat.le_of_ble_eq_true rfl⟩) (pv_MO hWd hv0) rfl rfl hl.1 rfl (lv_room (Nat.le_of_ble_eq_true rfl)) d_MO_verify_53 ⟨Nat.zero_le _, Nat.zero_le _⟩) hWd (fun H locs hWd => ?_)
          refine lv_lload_n hx hb d_MO_verify_56 rfl (lv_at hl 2 rfl) ?_
          refine W.lcmp hx hb d_MO_verify_57 ?_
          refine lv_if_eq (tgt := 63) hx hb d_MO_verify_58 (by decide) (fun hc => ?_) (fun hc => ?_)
          · replace h := ifP h hc
            refine lv_aload_n hx hb d_MO_verify_63 rfl (lv_at hl 1 rfl) ?_
            refine lv_iconst (v := 1) hx hb d_MO_verify_64 (by decide) ?_
            refine lv_iload hx hb d_MO_verify_65 (lv_at hl 0 rfl) ?_
            refine lv_iadd hx hb d_MO_verify_67 ?_
            refine p_MO_at hX t_424 hWd hv0 d_MO_verify_68 (fun H locs hWd => ?_)
            obtain ⟨M10, eM10, h⟩ := stE h
            rw [← eM10] at hWd
            refine lv_aload_n hx hb d_MO_verify_71 rfl (lv_at hl 1 rfl) ?_
            refine lv_iload_n hx hb d_MO_verify_72 rfl (lv_at hl 3 rfl) ?_
            refine p_MO_path hX t_428 hWd hv0 d_MO_verify_73 (fun H locs hWd => ?_)
            obtain ⟨M11, eM11, h⟩ := stE h
            rw [← eM11] at hWd
            refine lv_iconst (v := 0) hx hb d_MO_verify_76 (by decide) ?_
            refine lv_istore (lv' := [(6, .int 0), (5, .int x6), (0, .ref v0), (1, .long v1), (3, .int v3), (4, .int v4)]) hx hb d_MO_verify_77 hl (by decide) rfl (fun ls hl => ?_)
            refine lv_iconst (v := 0) hx hb d_MO_verify_79 (by decide) ?_
            refine lv_istore (lv' := [(7, .int 0), (6, .int 0), (5, .int x6), (0, .ref v0), (1, .long v1), (3, .int v3), (4, .int v4)]) hx hb d_MO_verify_80 hl (by decide) rfl (fun ls hl => ?_)
            exact w_MO_verify_82 hX hr hlk FU v0 v4 0 0 M11 _ _ _ hv0 (lv_sub hl [3, 6, 1, 0] rfl) hWd h
          · replace h := ifN h hc
            refine lv_iconst (v := 0) hx hb d_MO_verify_61 (by decide) ?_
            obtain rfl := Option.some.inj h
            exact e_zret hX hr hlk hWd (Or.inl rfl) d_MO_verify_62
      · replace h := ifP h hc
        refine lv_iconst (v := 0) hx hb d_MO_verify_26 (by decide) ?_
        obtain rfl := Option.some.inj h
        exact e_zret hX hr hlk hWd (Or.inl rfl) d_MO_verify_27
