set_option maxHeartbeats 4000000 in
set_option maxRecDepth 100000 in
theorem w_LW_law_28 {p : Program} {l : Launch} {e : Env} {s : State} {m : MethodId} {below : List Frame} {meth : Method} {c : Code} {E : En} {K G : Nat → Nat} {L : List Nat} {qc : Cond} {b Ls : Nat} {xs : Nat → Int32} (hX : CallFix p m c b_LW_law 4 s #[Value.ref b] (qc :: tG) "NibbleTrieLaw") (hr : meth.sig.returnType = ret) (hlk : meth.locks = false) (hS0 : Sx L b Ls xs s) : ∀ (n v1 v2 : Nat) (v3 : Int32) (M : Mm) (H : Heap) (locs : List Loc) (ls : Array Slot), K v1 = 5 → K v2 = 9 → lv_has ls 4 [(0, .ref b), (1, .ref v1), (2, .ref v2), (3, .int v3)] → Wd E K G L M s.heap H locs s → f_LW_law_28 G xs Ls n v1 v2 v3 M = some () → W p l e room_1 s m #[Value.ref b] below meth c H locs 600000 7302250 (lw_Z below #[Value.ref b] s) (F0 m 28 ls []) := by
  have hx := hX.1
  have hb := hX.2.1
  have hown := hX.2.2.2.1
  have hts := hX.2.2.2.2
  intro n
  induction n with
  | zero => intro _ _ _ _ _ _ _ _ _ _ _ h; rw [f_LW_law_28] at h; cases h
  | succ n ih =>
    intro v1 v2 v3 M H locs ls hv1 hv2 hl hWd h
    rw [f_LW_law_28] at h
    refine lv_iload_n hx hb d_LW_law_28 rfl (lv_at hl 3 rfl) ?_
    refine lv_aload_n hx hb d_LW_law_29 rfl (lv_at hl 0 rfl) ?_
    refine r_slen hX hS0 hWd d_LW_law_30 ?_
    refine lv_iconst (v := 5) hx hb d_LW_law_31 (by decide) ?_
    refine lv_isub hx hb d_LW_law_32 ?_
    refine lv_icmp_gt (tgt := 614) hx hb d_LW_law_33 (by decide) (fun hc => ?_) (fun hc => ?_)
    · replace h := ifP h hc
      refine lv_iconst (v := 1) hx hb d_LW_law_614 (by decide) ?_
      exact lw_end hX hr hlk hS0 hWd d_LW_law_615
    · replace h := ifN h hc
      refine lv_aload_n hx hb d_LW_law_36 rfl (lv_at hl 0 rfl) ?_
      refine lv_iload_n hx hb d_LW_law_37 rfl (lv_at hl 3 rfl) ?_
      obtain ⟨j1, hj1, h⟩ := ob h
      refine r_sld hX hS0 hWd hj1 d_LW_law_38 ?_
      refine lv_bipush (v := 31) hx hb d_LW_law_39 (by decide) ?_
      refine lv_iand hx hb d_LW_law_41 ?_
      by_cases hc0 : ((xs j1) &&& 31) = 0
      · replace h := ifP h hc0
        refine tbIn (tgt := 124) (off := 82) hx hb d_LW_law_42 hc0 (by decide) (by decide) (by decide) (by decide) ?_
        refine lv_aload_n hx hb d_LW_law_124 rfl (lv_at hl 1 rfl) ?_
        refine lv_aload_n hx hb d_LW_law_125 rfl (lv_at hl 0 rfl) ?_
        refine lv_iload_n hx hb d_LW_law_126 rfl (lv_at hl 3 rfl) ?_
        refine lv_iconst (v := 1) hx hb d_LW_law_127 (by decide) ?_
        refine lv_iadd hx hb d_LW_law_128 ?_
        obtain ⟨j2, hj2, h⟩ := ob h
        refine r_sld hX hS0 hWd hj2 d_LW_law_129 ?_
        refine lv_aload_n hx hb d_LW_law_130 rfl (lv_at hl 0 rfl) ?_
        refine lv_iload_n hx hb d_LW_law_131 rfl (lv_at hl 3 rfl) ?_
        refine lv_iconst (v := 2) hx hb d_LW_law_132 (by decide) ?_
        refine lv_iadd hx hb d_LW_law_133 ?_
        obtain ⟨j3, hj3, h⟩ := ob h
        refine r_sld hX hS0 hWd hj3 d_LW_law_134 ?_
        obtain ⟨q4, hq4, h⟩ := ob h
        refine kcL_i (va_runV (As := [.int (xs j2), .int (xs j3)]) (rest := []) hX (m_NT_put l  v1 (xs j2) (xs j3) hv1 hq4) (cb_NT_put hts t_136 ⟨Nat.le_of_ble_eq_true rfl, Nat.le_of_ble_eq_true rfl⟩) (pv_NT hWd hv1) rfl rfl hl.1 rfl (lv_room (Nat.le_of_ble_eq_true rfl)) d_LW_law_135 ⟨Nat.le_refl _, Nat.le_refl _⟩) hWd (fun H locs hWd => ?_)
        refine lv_aload_n hx hb d_LW_law_138 rfl (lv_at hl 2 rfl) ?_
        refine lv_aload_n hx hb d_LW_law_139 rfl (lv_at hl 0 rfl) ?_
        refine lv_iload_n hx hb d_LW_law_140 rfl (lv_at hl 3 rfl) ?_
        refine lv_iconst (v := 1) hx hb d_LW_law_141 (by decide) ?_
        refine lv_iadd hx hb d_LW_law_142 ?_
        obtain ⟨j5, hj5, h⟩ := ob h
        refine r_sld hX hS0 hWd hj5 d_LW_law_143 ?_
        refine lv_aload_n hx hb d_LW_law_144 rfl (lv_at hl 0 rfl) ?_
        refine lv_iload_n hx hb d_LW_law_145 rfl (lv_at hl 3 rfl) ?_
        refine lv_iconst (v := 2) hx hb d_LW_law_146 (by decide) ?_
        refine lv_iadd hx hb d_LW_law_147 ?_
        obtain ⟨j6, hj6, h⟩ := ob h
        refine r_sld hX hS0 hWd hj6 d_LW_law_148 ?_
        obtain ⟨q7, hq7, h⟩ := ob h
        refine kcL_i (va_runV (As := [.int (xs j5), .int (xs j6)]) (rest := [.int q4.1]) hX (m_MO_put l  v2 (xs j5) (xs j6) hv2 hq7) (cb_MO_put hts t_464 ⟨Nat.le_of_ble_eq_true rfl, Nat.le_of_ble_eq_true rfl⟩) (pv_MO hWd hv2) rfl rfl hl.1 rfl (lv_room (Nat.le_of_ble_eq_true rfl)) d_LW_law_149 ⟨Nat.le_refl _, Nat.le_refl _⟩) hWd (fun H locs hWd => ?_)
        refine lv_icmp_eq (tgt := 608) hx hb d_LW_law_152 (by decide) (fun hc => ?_) (fun hc => ?_)
        · replace h := ifP h hc
          refine lv_iinc (k := 3) (v := (v3 + 5)) (lv' := [(3, .int (v3 + 5)), (0, .ref b), (1, .ref v1), (2, .ref v2)]) hx hb d_LW_law_608 hl rfl (by rfl) (by decide) rfl (fun ls hl => ?_)
          refine lv_goto (tgt := 28) hx hb d_LW_law_611 (by decide) ?_
          exact ih v1 v2 (v3 + 5) q7.2 _ _ _ hv1 hv2 (lv_sub hl [1, 2, 3, 0] rfl) hWd h
        · replace h := ifN h hc
          refine lv_iconst (v := 0) hx hb d_LW_law_155 (by decide) ?_
          cases h
      replace h := ifN h hc0
      by_cases hc1 : ((xs j1) &&& 31) = 1
      · replace h := ifP h hc1
        refine tbIn (tgt := 157) (off := 115) hx hb d_LW_law_42 hc1 (by decide) (by decide) (by decide) (by decide) ?_
        refine lv_aload_n hx hb d_LW_law_157 rfl (lv_at hl 1 rfl) ?_
        refine lv_aload_n hx hb d_LW_law_158 rfl (lv_at hl 0 rfl) ?_
        refine lv_iload_n hx hb d_LW_law_159 rfl (lv_at hl 3 rfl) ?_
        refine lv_iconst (v := 1) hx hb d_LW_law_160 (by decide) ?_
        refine lv_iadd hx hb d_LW_law_161 ?_
        obtain ⟨j8, hj8, h⟩ := ob h
        refine r_sld hX hS0 hWd hj8 d_LW_law_162 ?_
        obtain ⟨q9, hq9, h⟩ := ob h
        refine kcL_i (va_runV (As := [.int (xs j8)]) (rest := []) hX (m_NT_get l  v1 (xs j8) hv1 hq9) (cb_NT_get hts t_207 ⟨Nat.le_of_ble_eq_true rfl, Nat.le_of_ble_eq_true rfl⟩) (pv_NT hWd hv1) rfl rfl hl.1 rfl (lv_room (Nat.le_of_ble_eq_true rfl)) d_LW_law_163 ⟨Nat.le_refl _, Nat.le_refl _⟩) hWd (fun H locs hWd => ?_)
        refine lv_aload_n hx hb d_LW_law_166 rfl (lv_at hl 2 rfl) ?_
        refine lv_aload_n hx hb d_LW_law_167 rfl (lv_at hl 0 rfl) ?_
        refine lv_iload_n hx hb d_LW_law_168 rfl (lv_at hl 3 rfl) ?_
        refine lv_iconst (v := 1) hx hb d_LW_law_169 (by decide) ?_
        refine lv_iadd hx hb d_LW_law_170 ?_
        obtain ⟨j10, hj10, h⟩ := ob h
        refine r_sld hX hS0 hWd hj10 d_LW_law_171 ?_
        obtain ⟨q11, hq11, h⟩ := ob h
        refine kcL_i (va_runV (As := [.int (xs j10)]) (rest := [.int q9]) hX (m_MO_get l  v2 (xs j10) hv2 hq11) (cb_MO_get hts t_477 ⟨Nat.le_of_ble_eq_true rfl, Nat.le_of_ble_eq_true rfl⟩) (pv_MO hWd hv2) rfl rfl hl.1 rfl (lv_room (Nat.le_of_ble_eq_true rfl)) d_LW_law_172 ⟨Nat.le_refl _, Nat.le_refl _⟩) hWd (fun H locs hWd => ?_)
        refine lv_icmp_eq (tgt := 608) hx hb d_LW_law_175 (by decide) (fun hc => ?_) (fun hc => ?_)
        · replace h := ifP h hc
          refine lv_iinc (k := 3) (v := (v3 + 5)) (lv' := [(3, .int (v3 + 5)), (0, .ref b), (1, .ref v1), (2, .ref v2)]) hx hb d_LW_law_608 hl rfl (by rfl) (by decide) rfl (fun ls hl => ?_)
          refine lv_goto (tgt := 28) hx hb d_LW_law_611 (by decide) ?_
          exact ih v1 v2 (v3 + 5) M _ _ _ hv1 hv2 (lv_sub hl [1, 2, 3, 0] rfl) hWd h
        · replace h := ifN h hc
          refine lv_iconst (v := 0) hx hb d_LW_law_178 (by decide) ?_
          cases h
      replace h := ifN h hc1
      by_cases hc2 : ((xs j1) &&& 31) = 2
      · replace h := ifP h hc2
        refine tbIn (tgt := 180) (off := 138) hx hb d_LW_law_42 hc2 (by decide) (by decide) (by decide) (by decide) ?_
        refine lv_aload_n hx hb d_LW_law_180 rfl (lv_at hl 1 rfl) ?_
        refine kcL_i (va_runV (As := []) (rest := []) hX (m_NT_size l  v1 hv1 rfl) (cb_NT_size hts t_216 ⟨Nat.le_of_ble_eq_true rfl, Nat.le_of_ble_eq_true rfl⟩) (pv_NT hWd hv1) rfl rfl hl.1 rfl (lv_room (Nat.le_of_ble_eq_true rfl)) d_LW_law_181 ⟨Nat.le_refl _, Nat.le_refl _⟩) hWd (fun H locs hWd => ?_)
        refine lv_aload_n hx hb d_LW_law_184 rfl (lv_at hl 2 rfl) ?_
        obtain ⟨q12, hq12, h⟩ := ob h
        refine kcL_i (va_runV (As := []) (rest := [.int (f_NT_size G v1 M)]) hX (m_MO_size l  v2 hv2 hq12) (cb_MO_size hts t_485 ⟨Nat.le_of_ble_eq_true rfl, Nat.le_of_ble_eq_true rfl⟩) (pv_MO hWd hv2) rfl rfl hl.1 rfl (lv_room (Nat.le_of_ble_eq_true rfl)) d_LW_law_185 ⟨Nat.le_refl _, Nat.le_refl _⟩) hWd (fun H locs hWd => ?_)
        refine lv_icmp_eq (tgt := 608) hx hb d_LW_law_188 (by decide) (fun hc => ?_) (fun hc => ?_)
        · replace h := ifP h hc
          refine lv_iinc (k := 3) (v := (v3 + 5)) (lv' := [(3, .int (v3 + 5)), (0, .ref b), (1, .ref v1), (2, .ref v2)]) hx hb d_LW_law_608 hl rfl (by rfl) (by decide) rfl (fun ls hl => ?_)
          refine lv_goto (tgt := 28) hx hb d_LW_law_611 (by decide) ?_
          exact ih v1 v2 (v3 + 5) M _ _ _ hv1 hv2 (lv_sub hl [1, 2, 3, 0] rfl) hWd h
        · replace h := ifN h hc
          refine lv_iconst (v := 0) hx hb d_LW_law_191 (by decide) ?_
          cases h
      replace h := ifN h hc2
      by_cases hc3 : ((xs j1) &&& 31) = 3
      · replace h := ifP h hc3
        refine tbIn (tgt := 193) (off := 151) hx hb d_LW_law_42 hc3 (by decide) (by decide) (by decide) (by decide) ?_
        refine lv_aload_n hx hb d_LW_law_193 rfl (lv_at hl 1 rfl) ?_
        obtain ⟨q13, hq13, h⟩ := ob h
        refine kcL_l (va_runV (As := []) (rest := []) hX (m_NT_root l  v1 hv1 hq13) (cb_NT_root hts t_220 ⟨Nat.le_of_ble_eq_true rfl, Nat.le_of_ble_eq_true rfl⟩) (pv_NT hWd hv1) rfl rfl hl.1 rfl (lv_room (Nat.le_of_ble_eq_true rfl)) d_LW_law_194 ⟨Nat.le_refl _, Nat.le_refl _⟩) hWd (fun H locs hWd => ?_)
        refine lv_aload_n hx hb d_LW_law_197 rfl (lv_at hl 2 rfl) ?_
        obtain ⟨q14, hq14, h⟩ := ob h
        refine kcL_l (va_runV (As := []) (rest := [.long q13.1]) hX (m_MO_root l  v2 hv2 hq14) (cb_MO_root hts t_489 ⟨Nat.le_of_ble_eq_true rfl, Nat.le_of_ble_eq_true rfl⟩) (pv_MO hWd hv2) rfl rfl hl.1 rfl (lv_room (Nat.le_of_ble_eq_true rfl)) d_LW_law_198 ⟨Nat.le_refl _, Nat.le_refl _⟩) hWd (fun H locs hWd => ?_)
        refine W.lcmp hx hb d_LW_law_201 ?_
        refine lv_if_eq (tgt := 608) hx hb d_LW_law_202 (by decide) (fun hc => ?_) (fun hc => ?_)
        · replace h := ifP h hc
          refine lv_iinc (k := 3) (v := (v3 + 5)) (lv' := [(3, .int (v3 + 5)), (0, .ref b), (1, .ref v1), (2, .ref v2)]) hx hb d_LW_law_608 hl rfl (by rfl) (by decide) rfl (fun ls hl => ?_)
          refine lv_goto (tgt := 28) hx hb d_LW_law_611 (by decide) ?_
          exact ih v1 v2 (v3 + 5) q14.2 _ _ _ hv1 hv2 (lv_sub hl [1, 2, 3, 0] rfl) hWd h
        · replace h := ifN h hc
          refine lv_iconst (v := 0) hx hb d_LW_law_205 (by decide) ?_
          cases h
      replace h := ifN h hc3
      by_cases hc4 : ((xs j1) &&& 31) = 4
      · replace h := ifP h hc4
        refine tbIn (tgt := 207) (off := 165) hx hb d_LW_law_42 hc4 (by decide) (by decide) (by decide) (by decide) ?_
        refine lv_aload_n hx hb d_LW_law_207 rfl (lv_at hl 1 rfl) ?_
        refine lv_aload_n hx hb d_LW_law_208 rfl (lv_at hl 0 rfl) ?_
        refine lv_iload_n hx hb d_LW_law_209 rfl (lv_at hl 3 rfl) ?_
        refine lv_iconst (v := 1) hx hb d_LW_law_210 (by decide) ?_
        refine lv_iadd hx hb d_LW_law_211 ?_
        obtain ⟨j15, hj15, h⟩ := ob h
        refine r_sld hX hS0 hWd hj15 d_LW_law_212 ?_
        refine kcL_i (va_runV (As := [.int (xs j15)]) (rest := []) hX (m_NT_count l  v1 (xs j15) hv1 rfl) (cb_NT_count hts t_251 ⟨Nat.le_of_ble_eq_true rfl, Nat.le_of_ble_eq_true rfl⟩) (pv_NT hWd hv1) rfl rfl hl.1 rfl (lv_room (Nat.le_of_ble_eq_true rfl)) d_LW_law_213 ⟨Nat.le_refl _, Nat.le_refl _⟩) hWd (fun H locs hWd => ?_)
        refine lv_aload_n hx hb d_LW_law_216 rfl (lv_at hl 2 rfl) ?_
        refine lv_aload_n hx hb d_LW_law_217 rfl (lv_at hl 0 rfl) ?_
        refine lv_iload_n hx hb d_LW_law_218 rfl (lv_at hl 3 rfl) ?_
        refine lv_iconst (v := 1) hx hb d_LW_law_219 (by decide) ?_
        refine lv_iadd hx hb d_LW_law_220 ?_
        obtain ⟨j16, hj16, h⟩ := ob h
        refine r_sld hX hS0 hWd hj16 d_LW_law_221 ?_
        obtain ⟨q17, hq17, h⟩ := ob h
        refine kcL_i (va_runV (As := [.int (xs j16)]) (rest := [.int (f_NT_count G v1 (xs j15) M)]) hX (m_MO_count l  v2 (xs j16) hv2 hq17) (cb_MO_count hts t_548 ⟨Nat.le_of_ble_eq_true rfl, Nat.le_of_ble_eq_true rfl⟩) (pv_MO hWd hv2) rfl rfl hl.1 rfl (lv_room (Nat.le_of_ble_eq_true rfl)) d_LW_law_222 ⟨Nat.le_refl _, Nat.le_refl _⟩) hWd (fun H locs hWd => ?_)
        refine lv_icmp_eq (tgt := 608) hx hb d_LW_law_225 (by decide) (fun hc => ?_) (fun hc => ?_)
        · replace h := ifP h hc
          refine lv_iinc (k := 3) (v := (v3 + 5)) (lv' := [(3, .int (v3 + 5)), (0, .ref b), (1, .ref v1), (2, .ref v2)]) hx hb d_LW_law_608 hl rfl (by rfl) (by decide) rfl (fun ls hl => ?_)
          refine lv_goto (tgt := 28) hx hb d_LW_law_611 (by decide) ?_
          exact ih v1 v2 (v3 + 5) q17.2 _ _ _ hv1 hv2 (lv_sub hl [1, 2, 3, 0] rfl) hWd h
        · replace h := ifN h hc
          refine lv_iconst (v := 0) hx hb d_LW_law_228 (by decide) ?_
          cases h
      replace h := ifN h hc4
      by_cases hc5 : ((xs j1) &&& 31) = 5
      · replace h := ifP h hc5
        refine tbIn (tgt := 230) (off := 188) hx hb d_LW_law_42 hc5 (by decide) (by decide) (by decide) (by decide) ?_
        refine lv_aload_n hx hb d_LW_law_230 rfl (lv_at hl 1 rfl) ?_
        refine lv_aload_n hx hb d_LW_law_231 rfl (lv_at hl 0 rfl) ?_
        refine lv_iload_n hx hb d_LW_law_232 rfl (lv_at hl 3 rfl) ?_
        refine lv_iconst (v := 1) hx hb d_LW_law_233 (by decide) ?_
        refine lv_iadd hx hb d_LW_law_234 ?_
        obtain ⟨j18, hj18, h⟩ := ob h
        refine r_sld hX hS0 hWd hj18 d_LW_law_235 ?_
        obtain ⟨q19, hq19, h⟩ := ob h
        refine kcL_i (va_runV (As := [.int (xs j18)]) (rest := []) hX (m_NT_commit l  v1 (xs j18) hv1 hq19) (cb_NT_commit hts t_255 ⟨Nat.le_of_ble_eq_true rfl, Nat.le_of_ble_eq_true rfl⟩) (pv_NT hWd hv1) rfl rfl hl.1 rfl (lv_room (Nat.le_of_ble_eq_true rfl)) d_LW_law_236 ⟨Nat.le_refl _, Nat.le_refl _⟩) hWd (fun H locs hWd => ?_)
        refine lv_aload_n hx hb d_LW_law_239 rfl (lv_at hl 2 rfl) ?_
        refine lv_aload_n hx hb d_LW_law_240 rfl (lv_at hl 0 rfl) ?_
        refine lv_iload_n hx hb d_LW_law_241 rfl (lv_at hl 3 rfl) ?_
        refine lv_iconst (v := 1) hx hb d_LW_law_242 (by decide) ?_
        refine lv_iadd hx hb d_LW_law_243 ?_
        obtain ⟨j20, hj20, h⟩ := ob h
        refine r_sld hX hS0 hWd hj20 d_LW_law_244 ?_
        obtain ⟨q21, hq21, h⟩ := ob h
        refine kcL_i (va_runV (As := [.int (xs j20)]) (rest := [.int q19.1]) hX (m_MO_commit l  v2 (xs j20) hv2 hq21) (cb_MO_commit hts t_552 ⟨Nat.le_of_ble_eq_true rfl, Nat.le_of_ble_eq_true rfl⟩) (pv_MO hWd hv2) rfl rfl hl.1 rfl (lv_room (Nat.le_of_ble_eq_true rfl)) d_LW_law_245 ⟨Nat.le_refl _, Nat.le_refl _⟩) hWd (fun H locs hWd => ?_)
        refine lv_icmp_eq (tgt := 608) hx hb d_LW_law_248 (by decide) (fun hc => ?_) (fun hc => ?_)
        · replace h := ifP h hc
          refine lv_iinc (k := 3) (v := (v3 + 5)) (lv' := [(3, .int (v3 + 5)), (0, .ref b), (1, .ref v1), (2, .ref v2)]) hx hb d_LW_law_608 hl rfl (by rfl) (by decide) rfl (fun ls hl => ?_)
          refine lv_goto (tgt := 28) hx hb d_LW_law_611 (by decide) ?_
          exact ih v1 v2 (v3 + 5) q21.2 _ _ _ hv1 hv2 (lv_sub hl [1, 2, 3, 0] rfl) hWd h
        · replace h := ifN h hc
          refine lv_iconst (v := 0) hx hb d_LW_law_251 (by decide) ?_
          cases h
      replace h := ifN h hc5
      by_cases hc6 : ((xs j1) &&& 31) = 6
      · replace h := ifP h hc6
        refine tbIn (tgt := 253) (off := 211) hx hb d_LW_law_42 hc6 (by decide) (by decide) (by decide) (by decide) ?_
        refine lv_aload_n hx hb d_LW_law_253 rfl (lv_at hl 1 rfl) ?_
        obtain ⟨q22, hq22, h⟩ := ob h
        refine kcL_i (va_runV (As := []) (rest := []) hX (m_NT_crash l  v1 hv1 hq22) (cb_NT_crash hts t_295 ⟨Nat.le_of_ble_eq_true rfl, Nat.le_of_ble_eq_true rfl⟩) (pv_NT hWd hv1) rfl rfl hl.1 rfl (lv_room (Nat.le_of_ble_eq_true rfl)) d_LW_law_254 ⟨Nat.le_refl _, Nat.le_refl _⟩) hWd (fun H locs hWd => ?_)
        refine lv_aload_n hx hb d_LW_law_257 rfl (lv_at hl 2 rfl) ?_
        obtain ⟨q23, hq23, h⟩ := ob h
        refine kcL_i (va_runV (As := []) (rest := [.int q22.1]) hX (m_MO_crash l  v2 hv2 hq23) (cb_MO_crash hts t_572 ⟨Nat.le_of_ble_eq_true rfl, Nat.le_of_ble_eq_true rfl⟩) (pv_MO hWd hv2) rfl rfl hl.1 rfl (lv_room (Nat.le_of_ble_eq_true rfl)) d_LW_law_258 ⟨Nat.le_refl _, Nat.le_refl _⟩) hWd (fun H locs hWd => ?_)
        refine lv_icmp_eq (tgt := 608) hx hb d_LW_law_261 (by decide) (fun hc => ?_) (fun hc => ?_)
        · replace h := ifP h hc
          refine lv_iinc (k := 3) (v := (v3 + 5)) (lv' := [(3, .int (v3 + 5)), (0, .ref b), (1, .ref v1), (2, .ref v2)]) hx hb d_LW_law_608 hl rfl (by rfl) (by decide) rfl (fun ls hl => ?_)
          refine lv_goto (tgt := 28) hx hb d_LW_law_611 (by decide) ?_
          exact ih v1 v2 (v3 + 5) q23.2 _ _ _ hv1 hv2 (lv_sub hl [1, 2, 3, 0] rfl) hWd h
        · replace h := ifN h hc
          refine lv_iconst (v := 0) hx hb d_LW_law_264 (by decide) ?_
          cases h
      replace h := ifN h hc6
      by_cases hc7 : ((xs j1) &&& 31) = 7
      · replace h := ifP h hc7
        refine tbIn (tgt := 266) (off := 224) hx hb d_LW_law_42 hc7 (by decide) (by decide) (by decide) (by decide) ?_
        refine lv_aload_n hx hb d_LW_law_266 rfl (lv_at hl 1 rfl) ?_
        refine kcL_i (va_runV (As := []) (rest := []) hX (m_NT_versions l  v1 hv1 rfl) (cb_NT_versions hts t_299 ⟨Nat.le_of_ble_eq_true rfl, Nat.le_of_ble_eq_true rfl⟩) (pv_NT hWd hv1) rfl rfl hl.1 rfl (lv_room (Nat.le_of_ble_eq_true rfl)) d_LW_law_267 ⟨Nat.le_refl _, Nat.le_refl _⟩) hWd (fun H locs hWd => ?_)
        refine lv_aload_n hx hb d_LW_law_270 rfl (lv_at hl 2 rfl) ?_
        refine kcL_i (va_runV (As := []) (rest := [.int (f_NT_versions G v1 M)]) hX (m_MO_versions l  v2 hv2 rfl) (cb_MO_versions hts t_576 ⟨Nat.le_of_ble_eq_true rfl, Nat.le_of_ble_eq_true rfl⟩) (pv_MO hWd hv2) rfl rfl hl.1 rfl (lv_room (Nat.le_of_ble_eq_true rfl)) d_LW_law_271 ⟨Nat.le_refl _, Nat.le_refl _⟩) hWd (fun H locs hWd => ?_)
        refine lv_icmp_eq (tgt := 608) hx hb d_LW_law_274 (by decide) (fun hc => ?_) (fun hc => ?_)
        · replace h := ifP h hc
          refine lv_iinc (k := 3) (v := (v3 + 5)) (lv' := [(3, .int (v3 + 5)), (0, .ref b), (1, .ref v1), (2, .ref v2)]) hx hb d_LW_law_608 hl rfl (by rfl) (by decide) rfl (fun ls hl => ?_)
          refine lv_goto (tgt := 28) hx hb d_LW_law_611 (by decide) ?_
          exact ih v1 v2 (v3 + 5) M _ _ _ hv1 hv2 (lv_sub hl [1, 2, 3, 0] rfl) hWd h
        · replace h := ifN h hc
          refine lv_iconst (v := 0) hx hb d_LW_law_277 (by decide) ?_
          cases h
      replace h := ifN h hc7
      by_cases hc8 : ((xs j1) &&& 31) = 8
      · replace h := ifP h hc8
        refine tbIn (tgt := 279) (off := 237) hx hb d_LW_law_42 hc8 (by decide) (by decide) (by decide) (by decide) ?_
        refine lv_aload_n hx hb d_LW_law_279 rfl (lv_at hl 1 rfl) ?_
        refine lv_aload_n hx hb d_LW_law_280 rfl (lv_at hl 0 rfl) ?_
        refine lv_iload_n hx hb d_LW_law_281 rfl (lv_at hl 3 rfl) ?_
        refine lv_iconst (v := 1) hx hb d_LW_law_282 (by decide) ?_
        refine lv_iadd hx hb d_LW_law_283 ?_
        obtain ⟨j24, hj24, h⟩ := ob h
        refine r_sld hX hS0 hWd hj24 d_LW_law_284 ?_
        refine lv_aload_n hx hb d_LW_law_285 rfl (lv_at hl 0 rfl) ?_
        refine lv_iload_n hx hb d_LW_law_286 rfl (lv_at hl 3 rfl) ?_
        refine lv_iconst (v := 2) hx hb d_LW_law_287 (by decide) ?_
        refine lv_iadd hx hb d_LW_law_288 ?_
        obtain ⟨j25, hj25, h⟩ := ob h
        refine r_sld hX hS0 hWd hj25 d_LW_law_289 ?_
        obtain ⟨q26, hq26, h⟩ := ob h
        refine kcL_i (va_runV (As := [.int (xs j24), .int (xs j25)]) (rest := []) hX (m_NT_at l  v1 (xs j24) (xs j25) hv1 hq26) (cb_NT_at hts t_303 ⟨Nat.le_of_ble_eq_true rfl, Nat.le_of_ble_eq_true rfl⟩) (pv_NT hWd hv1) rfl rfl hl.1 rfl (lv_room (Nat.le_of_ble_eq_true rfl)) d_LW_law_290 ⟨Nat.le_refl _, Nat.le_refl _⟩) hWd (fun H locs hWd => ?_)
        refine lv_aload_n hx hb d_LW_law_293 rfl (lv_at hl 2 rfl) ?_
        refine lv_aload_n hx hb d_LW_law_294 rfl (lv_at hl 0 rfl) ?_
        refine lv_iload_n hx hb d_LW_law_295 rfl (lv_at hl 3 rfl) ?_
        refine lv_iconst (v := 1) hx hb d_LW_law_296 (by decide) ?_
        refine lv_iadd hx hb d_LW_law_297 ?_
        obtain ⟨j27, hj27, h⟩ := ob h
        refine r_sld hX hS0 hWd hj27 d_LW_law_298 ?_
        refine lv_aload_n hx hb d_LW_law_299 rfl (lv_at hl 0 rfl) ?_
        refine lv_iload_n hx hb d_LW_law_300 rfl (lv_at hl 3 rfl) ?_
        refine lv_iconst (v := 2) hx hb d_LW_law_301 (by decide) ?_
        refine lv_iadd hx hb d_LW_law_302 ?_
        obtain ⟨j28, hj28, h⟩ := ob h
        refine r_sld hX hS0 hWd hj28 d_LW_law_303 ?_
        obtain ⟨q29, hq29, h⟩ := ob h
        refine kcL_i (va_runV (As := [.int (xs j27), .int (xs j28)]) (rest := [.int q26]) hX (m_MO_at l  v2 (xs j27) (xs j28) hv2 hq29) (cb_MO_at hts t_580 ⟨Nat.le_of_ble_eq_true rfl, Nat.le_of_ble_eq_true rfl⟩) (pv_MO hWd hv2) rfl rfl hl.1 rfl (lv_room (Nat.le_of_ble_eq_true rfl)) d_LW_law_304 ⟨Nat.le_refl _, Nat.le_refl _⟩) hWd (fun H locs hWd => ?_)
        refine lv_icmp_eq (tgt := 608) hx hb d_LW_law_307 (by decide) (fun hc => ?_) (fun hc => ?_)
        · replace h := ifP h hc
          refine lv_iinc (k := 3) (v := (v3 + 5)) (lv' := [(3, .int (v3 + 5)), (0, .ref b), (1, .ref v1), (2, .ref v2)]) hx hb d_LW_law_608 hl rfl (by rfl) (by decide) rfl (fun ls hl => ?_)
          refine lv_goto (tgt := 28) hx hb d_LW_law_611 (by decide) ?_
          exact ih v1 v2 (v3 + 5) M _ _ _ hv1 hv2 (lv_sub hl [1, 2, 3, 0] rfl) hWd h
        · replace h := ifN h hc
          refine lv_iconst (v := 0) hx hb d_LW_law_310 (by decide) ?_
          cases h
      replace h := ifN h hc8
      by_cases hc9 : ((xs j1) &&& 31) = 9
      · replace h := ifP h hc9
        refine tbIn (tgt := 312) (off := 270) hx hb d_LW_law_42 hc9 (by decide) (by decide) (by decide) (by decide) ?_
        refine lv_aload_n hx hb d_LW_law_312 rfl (lv_at hl 1 rfl) ?_
        refine lv_aload_n hx hb d_LW_law_313 rfl (lv_at hl 0 rfl) ?_
        refine lv_iload_n hx hb d_LW_law_314 rfl (lv_at hl 3 rfl) ?_
        refine lv_iconst (v := 1) hx hb d_LW_law_315 (by decide) ?_
        refine lv_iadd hx hb d_LW_law_316 ?_
        obtain ⟨j30, hj30, h⟩ := ob h
        refine r_sld hX hS0 hWd hj30 d_LW_law_317 ?_
        obtain ⟨q31, hq31, h⟩ := ob h
        refine kcL_l (va_runV (As := [.int (xs j30)]) (rest := []) hX (m_NT_rootAt l  v1 (xs j30) hv1 hq31) (cb_NT_rootAt hts t_311 ⟨Nat.le_of_ble_eq_true rfl, Nat.le_of_ble_eq_true rfl⟩) (pv_NT hWd hv1) rfl rfl hl.1 rfl (lv_room (Nat.le_of_ble_eq_true rfl)) d_LW_law_318 ⟨Nat.le_refl _, Nat.le_refl _⟩) hWd (fun H locs hWd => ?_)
        refine lv_aload_n hx hb d_LW_law_321 rfl (lv_at hl 2 rfl) ?_
        refine lv_aload_n hx hb d_LW_law_322 rfl (lv_at hl 0 rfl) ?_
        refine lv_iload_n hx hb d_LW_law_323 rfl (lv_at hl 3 rfl) ?_
        refine lv_iconst (v := 1) hx hb d_LW_law_324 (by decide) ?_
        refine lv_iadd hx hb d_LW_law_325 ?_
        obtain ⟨j32, hj32, h⟩ := ob h
        refine r_sld hX hS0 hWd hj32 d_LW_law_326 ?_
        obtain ⟨q33, hq33, h⟩ := ob h
        refine kcL_l (va_runV (As := [.int (xs j32)]) (rest := [.long q31.1]) hX (m_MO_rootAt l  v2 (xs j32) hv2 hq33) (cb_MO_rootAt hts t_588 ⟨Nat.le_of_ble_eq_true rfl, Nat.le_of_ble_eq_true rfl⟩) (pv_MO hWd hv2) rfl rfl hl.1 rfl (lv_room (Nat.le_of_ble_eq_true rfl)) d_LW_law_327 ⟨Nat.le_refl _, Nat.le_refl _⟩) hWd (fun H locs hWd => ?_)
        refine W.lcmp hx hb d_LW_law_330 ?_
        refine lv_if_eq (tgt := 608) hx hb d_LW_law_331 (by decide) (fun hc => ?_) (fun hc => ?_)
        · replace h := ifP h hc
          refine lv_iinc (k := 3) (v := (v3 + 5)) (lv' := [(3, .int (v3 + 5)), (0, .ref b), (1, .ref v1), (2, .ref v2)]) hx hb d_LW_law_608 hl rfl (by rfl) (by decide) rfl (fun ls hl => ?_)
          refine lv_goto (tgt := 28) hx hb d_LW_law_611 (by decide) ?_
          exact ih v1 v2 (v3 + 5) q33.2 _ _ _ hv1 hv2 (lv_sub hl [1, 2, 3, 0] rfl) hWd h
        · replace h := ifN h hc
          refine lv_iconst (v := 0) hx hb d_LW_law_334 (by decide) ?_
          cases h
      replace h := ifN h hc9
      by_cases hc10 : ((xs j1) &&& 31) = 10
      · replace h := ifP h hc10
        refine tbIn (tgt := 336) (off := 294) hx hb d_LW_law_42 hc10 (by decide) (by decide) (by decide) (by decide) ?_
        refine lv_aload_n hx hb d_LW_law_336 rfl (lv_at hl 1 rfl) ?_
        obtain ⟨q34, hq34, h⟩ := ob h
        refine kcL_i (va_runV (As := []) (rest := []) hX (m_NT_stored l  v1 hv1 hq34) (cb_NT_stored hts t_315 ⟨Nat.le_of_ble_eq_true rfl, Nat.le_of_ble_eq_true rfl⟩) (pv_NT hWd hv1) rfl rfl hl.1 rfl (lv_room (Nat.le_of_ble_eq_true rfl)) d_LW_law_337 ⟨Nat.le_refl _, Nat.le_refl _⟩) hWd (fun H locs hWd => ?_)
        refine lv_aload_n hx hb d_LW_law_340 rfl (lv_at hl 2 rfl) ?_
        obtain ⟨q35, hq35, h⟩ := ob h
        refine kcL_i (va_runV (As := []) (rest := [.int q34]) hX (m_MO_stored l  v2 hv2 hq35) (cb_MO_stored hts t_592 ⟨Nat.le_of_ble_eq_true rfl, Nat.le_of_ble_eq_true rfl⟩) (pv_MO hWd hv2) rfl rfl hl.1 rfl (lv_room (Nat.le_of_ble_eq_true rfl)) d_LW_law_341 ⟨Nat.le_refl _, Nat.le_refl _⟩) hWd (fun H locs hWd => ?_)
        refine lv_icmp_eq (tgt := 608) hx hb d_LW_law_344 (by decide) (fun hc => ?_) (fun hc => ?_)
        · replace h := ifP h hc
          refine lv_iinc (k := 3) (v := (v3 + 5)) (lv' := [(3, .int (v3 + 5)), (0, .ref b), (1, .ref v1), (2, .ref v2)]) hx hb d_LW_law_608 hl rfl (by rfl) (by decide) rfl (fun ls hl => ?_)
          refine lv_goto (tgt := 28) hx hb d_LW_law_611 (by decide) ?_
          exact ih v1 v2 (v3 + 5) M _ _ _ hv1 hv2 (lv_sub hl [1, 2, 3, 0] rfl) hWd h
        · replace h := ifN h hc
          refine lv_iconst (v := 0) hx hb d_LW_law_347 (by decide) ?_
          cases h
      replace h := ifN h hc10
      by_cases hc11 : ((xs j1) &&& 31) = 11
      · replace h := ifP h hc11
        refine tbIn (tgt := 349) (off := 307) hx hb d_LW_law_42 hc11 (by decide) (by decide) (by decide) (by decide) ?_
        refine lv_aload_n hx hb d_LW_law_349 rfl (lv_at hl 1 rfl) ?_
        refine lv_aload_n hx hb d_LW_law_350 rfl (lv_at hl 0 rfl) ?_
        refine lv_iload_n hx hb d_LW_law_351 rfl (lv_at hl 3 rfl) ?_
        refine lv_iconst (v := 1) hx hb d_LW_law_352 (by decide) ?_
        refine lv_iadd hx hb d_LW_law_353 ?_
        obtain ⟨j36, hj36, h⟩ := ob h
        refine r_sld hX hS0 hWd hj36 d_LW_law_354 ?_
        refine lv_i2l hx hb d_LW_law_355 rfl ?_
        refine lv_bipush (v := 32) hx hb d_LW_law_356 (by decide) ?_
        refine lv_lshl hx hb d_LW_law_358 rfl ?_
        refine lv_aload_n hx hb d_LW_law_359 rfl (lv_at hl 0 rfl) ?_
        refine lv_iload_n hx hb d_LW_law_360 rfl (lv_at hl 3 rfl) ?_
        refine lv_iconst (v := 2) hx hb d_LW_law_361 (by decide) ?_
        refine lv_iadd hx hb d_LW_law_362 ?_
        obtain ⟨j37, hj37, h⟩ := ob h
        refine r_sld hX hS0 hWd hj37 d_LW_law_363 ?_
        refine lv_i2l hx hb d_LW_law_364 rfl ?_
        refine lv_ldc2 (v := 4294967295) hx hb hown (hts _ (List.mem_cons_of_mem _ t_661)) d_LW_law_365 ?_
        refine lv_land hx hb d_LW_law_368 ?_
        refine lv_lor hx hb d_LW_law_369 ?_
        obtain ⟨q38, hq38, h⟩ := ob h
        refine kcL_i (va_runV (As := [.long ((((xs j36).toInt64) <<< ((32 : Int32).toInt64 &&& 63)) ||| (((xs j37).toInt64) &&& 4294967295))]) (rest := []) hX (m_NT_uses l  v1 ((((xs j36).toInt64) <<< ((32 : Int32).toInt64 &&& 63)) ||| (((xs j37).toInt64) &&& 4294967295)) hv1 hq38) (cb_NT_uses hts t_323 ⟨Nat.le_of_ble_eq_true rfl, Nat.le_of_ble_eq_true rfl⟩) (pv_NT hWd hv1) rfl rfl hl.1 rfl (lv_room (Nat.le_of_ble_eq_true rfl)) d_LW_law_370 ⟨Nat.le_refl _, Nat.le_refl _⟩) hWd (fun H locs hWd => ?_)
        refine lv_aload_n hx hb d_LW_law_373 rfl (lv_at hl 2 rfl) ?_
        refine lv_aload_n hx hb d_LW_law_374 rfl (lv_at hl 0 rfl) ?_
        refine lv_iload_n hx hb d_LW_law_375 rfl (lv_at hl 3 rfl) ?_
        refine lv_iconst (v := 1) hx hb d_LW_law_376 (by decide) ?_
        refine lv_iadd hx hb d_LW_law_377 ?_
        obtain ⟨j39, hj39, h⟩ := ob h
        refine r_sld hX hS0 hWd hj39 d_LW_law_378 ?_
        refine lv_i2l hx hb d_LW_law_379 rfl ?_
        refine lv_bipush (v := 32) hx hb d_LW_law_380 (by decide) ?_
        refine lv_lshl hx hb d_LW_law_382 rfl ?_
        refine lv_aload_n hx hb d_LW_law_383 rfl (lv_at hl 0 rfl) ?_
        refine lv_iload_n hx hb d_LW_law_384 rfl (lv_at hl 3 rfl) ?_
        refine lv_iconst (v := 2) hx hb d_LW_law_385 (by decide) ?_
        refine lv_iadd hx hb d_LW_law_386 ?_
        obtain ⟨j40, hj40, h⟩ := ob h
        refine r_sld hX hS0 hWd hj40 d_LW_law_387 ?_
        refine lv_i2l hx hb d_LW_law_388 rfl ?_
        refine lv_ldc2 (v := 4294967295) hx hb hown (hts _ (List.mem_cons_of_mem _ t_661)) d_LW_law_389 ?_
        refine lv_land hx hb d_LW_law_392 ?_
        refine lv_lor hx hb d_LW_law_393 ?_
        obtain ⟨q41, hq41, h⟩ := ob h
        refine kcL_i (va_runV (As := [.long ((((xs j39).toInt64) <<< ((32 : Int32).toInt64 &&& 63)) ||| (((xs j40).toInt64) &&& 4294967295))]) (rest := [.int q38.1]) hX (m_MO_uses l  v2 ((((xs j39).toInt64) <<< ((32 : Int32).toInt64 &&& 63)) ||| (((xs j40).toInt64) &&& 4294967295)) hv2 hq41) (cb_MO_uses hts t_600 ⟨Nat.le_of_ble_eq_true rfl, Nat.le_of_ble_eq_true rfl⟩) (pv_MO hWd hv2) rfl rfl hl.1 rfl (lv_room (Nat.le_of_ble_eq_true rfl)) d_LW_law_394 ⟨Nat.le_refl _, Nat.le_refl _⟩) hWd (fun H locs hWd => ?_)
        refine lv_icmp_eq (tgt := 608) hx hb d_LW_law_397 (by decide) (fun hc => ?_) (fun hc => ?_)
        · replace h := ifP h hc
          refine lv_iinc (k := 3) (v := (v3 + 5)) (lv' := [(3, .int (v3 + 5)), (0, .ref b), (1, .ref v1), (2, .ref v2)]) hx hb d_LW_law_608 hl rfl (by rfl) (by decide) rfl (fun ls hl => ?_)
          refine lv_goto (tgt := 28) hx hb d_LW_law_611 (by decide) ?_
          exact ih v1 v2 (v3 + 5) q38.2 _ _ _ hv1 hv2 (lv_sub hl [1, 2, 3, 0] rfl) hWd h
        · replace h := ifN h hc
          refine lv_iconst (v := 0) hx hb d_LW_law_400 (by decide) ?_
          cases h
      replace h := ifN h hc11
      by_cases hc12 : ((xs j1) &&& 31) = 12
      · replace h := ifP h hc12
        refine tbIn (tgt := 402) (off := 360) hx hb d_LW_law_42 hc12 (by decide) (by decide) (by decide) (by decide) ?_
        refine lv_aload_n hx hb d_LW_law_402 rfl (lv_at hl 1 rfl) ?_
        refine lv_aload_n hx hb d_LW_law_403 rfl (lv_at hl 0 rfl) ?_
        refine lv_iload_n hx hb d_LW_law_404 rfl (lv_at hl 3 rfl) ?_
        refine lv_iconst (v := 1) hx hb d_LW_law_405 (by decide) ?_
        refine lv_iadd hx hb d_LW_law_406 ?_
        obtain ⟨j42, hj42, h⟩ := ob h
        refine r_sld hX hS0 hWd hj42 d_LW_law_407 ?_
        refine lv_aload_n hx hb d_LW_law_408 rfl (lv_at hl 0 rfl) ?_
        refine lv_iload_n hx hb d_LW_law_409 rfl (lv_at hl 3 rfl) ?_
        refine lv_iconst (v := 2) hx hb d_LW_law_410 (by decide) ?_
        refine lv_iadd hx hb d_LW_law_411 ?_
        obtain ⟨j43, hj43, h⟩ := ob h
        refine r_sld hX hS0 hWd hj43 d_LW_law_412 ?_
        obtain ⟨q44, hq44, h⟩ := ob h
        refine kcL_i (va_runV (As := [.int (xs j42), .int (xs j43)]) (rest := []) hX (m_NT_prove l  v1 (xs j42) (xs j43) hv1 hq44) (cb_NT_prove hts t_335 ⟨Nat.le_of_ble_eq_true rfl, Nat.le_of_ble_eq_true rfl⟩) (pv_NT hWd hv1) rfl rfl hl.1 rfl (lv_room (Nat.le_of_ble_eq_true rfl)) d_LW_law_413 ⟨Nat.le_refl _, Nat.le_refl _⟩) hWd (fun H locs hWd => ?_)
        refine lv_aload_n hx hb d_LW_law_416 rfl (lv_at hl 2 rfl) ?_
        refine lv_aload_n hx hb d_LW_law_417 rfl (lv_at hl 0 rfl) ?_
        refine lv_iload_n hx hb d_LW_law_418 rfl (lv_at hl 3 rfl) ?_
        refine lv_iconst (v := 1) hx hb d_LW_law_419 (by decide) ?_
        refine lv_iadd hx hb d_LW_law_420 ?_
        obtain ⟨j45, hj45, h⟩ := ob h
        refine r_sld hX hS0 hWd hj45 d_LW_law_421 ?_
        refine lv_aload_n hx hb d_LW_law_422 rfl (lv_at hl 0 rfl) ?_
        refine lv_iload_n hx hb d_LW_law_423 rfl (lv_at hl 3 rfl) ?_
        refine lv_iconst (v := 2) hx hb d_LW_law_424 (by decide) ?_
        refine lv_iadd hx hb d_LW_law_425 ?_
        obtain ⟨j46, hj46, h⟩ := ob h
        refine r_sld hX hS0 hWd hj46 d_LW_law_426 ?_
        obtain ⟨q47, hq47, h⟩ := ob h
        refine kcL_i (va_runV (As := [.int (xs j45), .int (xs j46)]) (rest := [.int q44.1]) hX (m_MO_prove l  v2 (xs j45) (xs j46) hv2 hq47) (cb_MO_prove hts t_612 ⟨Nat.le_of_ble_eq_true rfl, Nat.le_of_ble_eq_true rfl⟩) (pv_MO hWd hv2) rfl rfl hl.1 rfl (lv_room (Nat.le_of_ble_eq_true rfl)) d_LW_law_427 ⟨Nat.le_refl _, Nat.le_refl _⟩) hWd (fun H locs hWd => ?_)
        refine lv_icmp_eq (tgt := 608) hx hb d_LW_law_430 (by decide) (fun hc => ?_) (fun hc => ?_)
        · replace h := ifP h hc
          refine lv_iinc (k := 3) (v := (v3 + 5)) (lv' := [(3, .int (v3 + 5)), (0, .ref b), (1, .ref v1), (2, .ref v2)]) hx hb d_LW_law_608 hl rfl (by rfl) (by decide) rfl (fun ls hl => ?_)
          refine lv_goto (tgt := 28) hx hb d_LW_law_611 (by decide) ?_
          exact ih v1 v2 (v3 + 5) q47.2 _ _ _ hv1 hv2 (lv_sub hl [1, 2, 3, 0] rfl) hWd h
        · replace h := ifN h hc
          refine lv_iconst (v := 0) hx hb d_LW_law_433 (by decide) ?_
          cases h
      replace h := ifN h hc12
      by_cases hc13 : ((xs j1) &&& 31) = 13
      · replace h := ifP h hc13
        refine tbIn (tgt := 435) (off := 393) hx hb d_LW_law_42 hc13 (by decide) (by decide) (by decide) (by decide) ?_
        refine lv_aload_n hx hb d_LW_law_435 rfl (lv_at hl 1 rfl) ?_
        refine lv_aload_n hx hb d_LW_law_436 rfl (lv_at hl 0 rfl) ?_
        refine lv_iload_n hx hb d_LW_law_437 rfl (lv_at hl 3 rfl) ?_
        refine lv_iconst (v := 1) hx hb d_LW_law_438 (by decide) ?_
        refine lv_iadd hx hb d_LW_law_439 ?_
        obtain ⟨j48, hj48, h⟩ := ob h
        refine r_sld hX hS0 hWd hj48 d_LW_law_440 ?_
        obtain ⟨q49, hq49, h⟩ := ob h
        refine kcL_l (va_runV (As := [.int (xs j48)]) (rest := []) hX (m_NT_word l  v1 (xs j48) hv1 hq49) (cb_NT_word hts t_351 ⟨Nat.le_of_ble_eq_true rfl, Nat.le_of_ble_eq_true rfl⟩) (pv_NT hWd hv1) rfl rfl hl.1 rfl (lv_room (Nat.le_of_ble_eq_true rfl)) d_LW_law_441 ⟨Nat.le_refl _, Nat.le_refl _⟩) hWd (fun H locs hWd => ?_)
        refine lv_aload_n hx hb d_LW_law_444 rfl (lv_at hl 2 rfl) ?_
        refine lv_aload_n hx hb d_LW_law_445 rfl (lv_at hl 0 rfl) ?_
        refine lv_iload_n hx hb d_LW_law_446 rfl (lv_at hl 3 rfl) ?_
        refine lv_iconst (v := 1) hx hb d_LW_law_447 (by decide) ?_
        refine lv_iadd hx hb d_LW_law_448 ?_
        obtain ⟨j50, hj50, h⟩ := ob h
        refine r_sld hX hS0 hWd hj50 d_LW_law_449 ?_
        obtain ⟨q51, hq51, h⟩ := ob h
        refine kcL_l (va_runV (As := [.int (xs j50)]) (rest := [.long q49]) hX (m_MO_word l  v2 (xs j50) hv2 hq51) (cb_MO_word hts t_620 ⟨Nat.le_of_ble_eq_true rfl, Nat.le_of_ble_eq_true rfl⟩) (pv_MO hWd hv2) rfl rfl hl.1 rfl (lv_room (Nat.le_of_ble_eq_true rfl)) d_LW_law_450 ⟨Nat.le_refl _, Nat.le_refl _⟩) hWd (fun H locs hWd => ?_)
        refine W.lcmp hx hb d_LW_law_453 ?_
        refine lv_if_eq (tgt := 608) hx hb d_LW_law_454 (by decide) (fun hc => ?_) (fun hc => ?_)
        · replace h := ifP h hc
          refine lv_iinc (k := 3) (v := (v3 + 5)) (lv' := [(3, .int (v3 + 5)), (0, .ref b), (1, .ref v1), (2, .ref v2)]) hx hb d_LW_law_608 hl rfl (by rfl) (by decide) rfl (fun ls hl => ?_)
          refine lv_goto (tgt := 28) hx hb d_LW_law_611 (by decide) ?_
          exact ih v1 v2 (v3 + 5) M _ _ _ hv1 hv2 (lv_sub hl [1, 2, 3, 0] rfl) hWd h
        · replace h := ifN h hc
          refine lv_iconst (v := 0) hx hb d_LW_law_457 (by decide) ?_
          cases h
      replace h := ifN h hc13
      by_cases hc14 : ((xs j1) &&& 31) = 14
      · replace h := ifP h hc14
        refine tbIn (tgt := 459) (off := 417) hx hb d_LW_law_42 hc14 (by decide) (by decide) (by decide) (by decide) ?_
        refine lv_aload_n hx hb d_LW_law_459 rfl (lv_at hl 1 rfl) ?_
        refine lv_aload_n hx hb d_LW_law_460 rfl (lv_at hl 0 rfl) ?_
        refine lv_iload_n hx hb d_LW_law_461 rfl (lv_at hl 3 rfl) ?_
        refine lv_iconst (v := 1) hx hb d_LW_law_462 (by decide) ?_
        refine lv_iadd hx hb d_LW_law_463 ?_
        obtain ⟨j52, hj52, h⟩ := ob h
        refine r_sld hX hS0 hWd hj52 d_LW_law_464 ?_
        refine lv_aload_n hx hb d_LW_law_465 rfl (lv_at hl 0 rfl) ?_
        refine lv_iload_n hx hb d_LW_law_466 rfl (lv_at hl 3 rfl) ?_
        refine lv_iconst (v := 2) hx hb d_LW_law_467 (by decide) ?_
        refine lv_iadd hx hb d_LW_law_468 ?_
        obtain ⟨j53, hj53, h⟩ := ob h
        refine r_sld hX hS0 hWd hj53 d_LW_law_469 ?_
        refine lv_i2l hx hb d_LW_law_470 rfl ?_
        refine lv_bipush (v := 32) hx hb d_LW_law_471 (by decide) ?_
        refine lv_lshl hx hb d_LW_law_473 rfl ?_
        refine lv_aload_n hx hb d_LW_law_474 rfl (lv_at hl 0 rfl) ?_
        refine lv_iload_n hx hb d_LW_law_475 rfl (lv_at hl 3 rfl) ?_
        refine lv_iconst (v := 3) hx hb d_LW_law_476 (by decide) ?_
        refine lv_iadd hx hb d_LW_law_477 ?_
        obtain ⟨j54, hj54, h⟩ := ob h
        refine r_sld hX hS0 hWd hj54 d_LW_law_478 ?_
        refine lv_i2l hx hb d_LW_law_479 rfl ?_
        refine lv_ldc2 (v := 4294967295) hx hb hown (hts _ (List.mem_cons_of_mem _ t_661)) d_LW_law_480 ?_
        refine lv_land hx hb d_LW_law_483 ?_
        refine lv_lor hx hb d_LW_law_484 ?_
        obtain ⟨q55, hq55, h⟩ := ob h
        refine kcL_z (va_runV (As := [.int (xs j52), .long ((((xs j53).toInt64) <<< ((32 : Int32).toInt64 &&& 63)) ||| (((xs j54).toInt64) &&& 4294967295))]) (rest := []) hX (m_NT_alter l  v1 (xs j52) ((((xs j53).toInt64) <<< ((32 : Int32).toInt64 &&& 63)) ||| (((xs j54).toInt64) &&& 4294967295)) hv1 hq55) (cb_NT_alter hts t_359 ⟨Nat.le_of_ble_eq_true rfl, Nat.le_of_ble_eq_true rfl⟩) (pv_NT hWd hv1) rfl rfl hl.1 rfl (lv_room (Nat.le_of_ble_eq_true rfl)) d_LW_law_485 ⟨Nat.le_refl _, Nat.le_refl _⟩) hWd (fun z56 H locs hWd => ?_)
        refine lv_aload_n hx hb d_LW_law_488 rfl (lv_at hl 2 rfl) ?_
        refine lv_aload_n hx hb d_LW_law_489 rfl (lv_at hl 0 rfl) ?_
        refine lv_iload_n hx hb d_LW_law_490 rfl (lv_at hl 3 rfl) ?_
        refine lv_iconst (v := 1) hx hb d_LW_law_491 (by decide) ?_
        refine lv_iadd hx hb d_LW_law_492 ?_
        obtain ⟨j57, hj57, h⟩ := ob h
        refine r_sld hX hS0 hWd hj57 d_LW_law_493 ?_
        refine lv_aload_n hx hb d_LW_law_494 rfl (lv_at hl 0 rfl) ?_
        refine lv_iload_n hx hb d_LW_law_495 rfl (lv_at hl 3 rfl) ?_
        refine lv_iconst (v := 2) hx hb d_LW_law_496 (by decide) ?_
        refine lv_iadd hx hb d_LW_law_497 ?_
        obtain ⟨j58, hj58, h⟩ := ob h
        refine r_sld hX hS0 hWd hj58 d_LW_law_498 ?_
        refine lv_i2l hx hb d_LW_law_499 rfl ?_
        refine lv_bipush (v := 32) hx hb d_LW_law_500 (by decide) ?_
        refine lv_lshl hx hb d_LW_law_502 rfl ?_
        refine lv_aload_n hx hb d_LW_law_503 rfl (lv_at hl 0 rfl) ?_
        refine lv_iload_n hx hb d_LW_law_504 rfl (lv_at hl 3 rfl) ?_
        refine lv_iconst (v := 3) hx hb d_LW_law_505 (by decide) ?_
        refine lv_iadd hx hb d_LW_law_506 ?_
        obtain ⟨j59, hj59, h⟩ := ob h
        refine r_sld hX hS0 hWd hj59 d_LW_law_507 ?_
        refine lv_i2l hx hb d_LW_law_508 rfl ?_
        refine lv_ldc2 (v := 4294967295) hx hb hown (hts _ (List.mem_cons_of_mem _ t_661)) d_LW_law_509 ?_
        refine lv_land hx hb d_LW_law_512 ?_
        refine lv_lor hx hb d_LW_law_513 ?_
        obtain ⟨q60, hq60, h⟩ := ob h
        refine kcL_z (va_runV (As := [.int (xs j57), .long ((((xs j58).toInt64) <<< ((32 : Int32).toInt64 &&& 63)) ||| (((xs j59).toInt64) &&& 4294967295))]) (rest := [.int q55.1]) hX (m_MO_alter l  v2 (xs j57) ((((xs j58).toInt64) <<< ((32 : Int32).toInt64 &&& 63)) ||| (((xs j59).toInt64) &&& 4294967295)) hv2 hq60) (cb_MO_alter hts t_624 ⟨Nat.le_of_ble_eq_true rfl, Nat.le_of_ble_eq_true rfl⟩) (pv_MO hWd hv2) rfl rfl hl.1 rfl (lv_room (Nat.le_of_ble_eq_true rfl)) d_LW_law_514 ⟨Nat.le_refl _, Nat.le_refl _⟩) hWd (fun z61 H locs hWd => ?_)
        refine lv_icmp_eq (tgt := 608) hx hb d_LW_law_517 (by decide) (fun hc => ?_) (fun hc => ?_)
        · replace h := ifP h hc
          refine lv_iinc (k := 3) (v := (v3 + 5)) (lv' := [(3, .int (v3 + 5)), (0, .ref b), (1, .ref v1), (2, .ref v2)]) hx hb d_LW_law_608 hl rfl (by rfl) (by decide) rfl (fun ls hl => ?_)
          refine lv_goto (tgt := 28) hx hb d_LW_law_611 (by decide) ?_
          exact ih v1 v2 (v3 + 5) q60.2 _ _ _ hv1 hv2 (lv_sub hl [1, 2, 3, 0] rfl) hWd h
        · replace h := ifN h hc
          refine lv_iconst (v := 0) hx hb d_LW_law_520 (by decide) ?_
          cases h
      replace h := ifN h hc14
      by_cases hc15 : ((xs j1) &&& 31) = 15
      · replace h := ifP h hc15
        refine tbIn (tgt := 522) (off := 480) hx hb d_LW_law_42 hc15 (by decide) (by decide) (by decide) (by decide) ?_
        refine lv_aload_n hx hb d_LW_law_522 rfl (lv_at hl 1 rfl) ?_
        obtain ⟨q62, hq62, h⟩ := stE h
        refine kcL_i (va_runV (As := []) (rest := []) hX (m_NT_cut l  v1 hv1 hq62.symm) (cb_NT_cut hts t_363 ⟨Nat.le_of_ble_eq_true rfl, Nat.le_of_ble_eq_true rfl⟩) (pv_NT hWd hv1) rfl rfl hl.1 rfl (lv_room (Nat.le_of_ble_eq_true rfl)) d_LW_law_523 ⟨Nat.le_refl _, Nat.le_refl _⟩) hWd (fun H locs hWd => ?_)
        refine lv_aload_n hx hb d_LW_law_526 rfl (lv_at hl 2 rfl) ?_
        obtain ⟨q63, hq63, h⟩ := stE h
        refine kcL_i (va_runV (As := []) (rest := [.int q62.1]) hX (m_MO_cut l  v2 hv2 hq63.symm) (cb_MO_cut hts t_628 ⟨Nat.le_of_ble_eq_true rfl, Nat.le_of_ble_eq_true rfl⟩) (pv_MO hWd hv2) rfl rfl hl.1 rfl (lv_room (Nat.le_of_ble_eq_true rfl)) d_LW_law_527 ⟨Nat.le_refl _, Nat.le_refl _⟩) hWd (fun H locs hWd => ?_)
        refine lv_icmp_eq (tgt := 608) hx hb d_LW_law_530 (by decide) (fun hc => ?_) (fun hc => ?_)
        · replace h := ifP h hc
          refine lv_iinc (k := 3) (v := (v3 + 5)) (lv' := [(3, .int (v3 + 5)), (0, .ref b), (1, .ref v1), (2, .ref v2)]) hx hb d_LW_law_608 hl rfl (by rfl) (by decide) rfl (fun ls hl => ?_)
          refine lv_goto (tgt := 28) hx hb d_LW_law_611 (by decide) ?_
          exact ih v1 v2 (v3 + 5) q63.2 _ _ _ hv1 hv2 (lv_sub hl [1, 2, 3, 0] rfl) hWd h
        · replace h := ifN h hc
          refine lv_iconst (v := 0) hx hb d_LW_law_533 (by decide) ?_
          cases h
      replace h := ifN h hc15
      by_cases hc16 : ((xs j1) &&& 31) = 16
      · replace h := ifP h hc16
        refine tbIn (tgt := 535) (off := 493) hx hb d_LW_law_42 hc16 (by decide) (by decide) (by decide) (by decide) ?_
        refine lv_aload_n hx hb d_LW_law_535 rfl (lv_at hl 1 rfl) ?_
        refine lv_aload_n hx hb d_LW_law_536 rfl (lv_at hl 0 rfl) ?_
        refine lv_iload_n hx hb d_LW_law_537 rfl (lv_at hl 3 rfl) ?_
        refine lv_iconst (v := 1) hx hb d_LW_law_538 (by decide) ?_
        refine lv_iadd hx hb d_LW_law_539 ?_
        obtain ⟨j64, hj64, h⟩ := ob h
        refine r_sld hX hS0 hWd hj64 d_LW_law_540 ?_
        refine lv_i2l hx hb d_LW_law_541 rfl ?_
        refine lv_bipush (v := 32) hx hb d_LW_law_542 (by decide) ?_
        refine lv_lshl hx hb d_LW_law_544 rfl ?_
        refine lv_aload_n hx hb d_LW_law_545 rfl (lv_at hl 0 rfl) ?_
        refine lv_iload_n hx hb d_LW_law_546 rfl (lv_at hl 3 rfl) ?_
        refine lv_iconst (v := 2) hx hb d_LW_law_547 (by decide) ?_
        refine lv_iadd hx hb d_LW_law_548 ?_
        obtain ⟨j65, hj65, h⟩ := ob h
        refine r_sld hX hS0 hWd hj65 d_LW_law_549 ?_
        refine lv_i2l hx hb d_LW_law_550 rfl ?_
        refine lv_ldc2 (v := 4294967295) hx hb hown (hts _ (List.mem_cons_of_mem _ t_661)) d_LW_law_551 ?_
        refine lv_land hx hb d_LW_law_554 ?_
        refine lv_lor hx hb d_LW_law_555 ?_
        refine lv_aload_n hx hb d_LW_law_556 rfl (lv_at hl 0 rfl) ?_
        refine lv_iload_n hx hb d_LW_law_557 rfl (lv_at hl 3 rfl) ?_
        refine lv_iconst (v := 3) hx hb d_LW_law_558 (by decide) ?_
        refine lv_iadd hx hb d_LW_law_559 ?_
        obtain ⟨j66, hj66, h⟩ := ob h
        refine r_sld hX hS0 hWd hj66 d_LW_law_560 ?_
        refine lv_aload_n hx hb d_LW_law_561 rfl (lv_at hl 0 rfl) ?_
        refine lv_iload_n hx hb d_LW_law_562 rfl (lv_at hl 3 rfl) ?_
        refine lv_iconst (v := 4) hx hb d_LW_law_563 (by decide) ?_
        refine lv_iadd hx hb d_LW_law_564 ?_
        obtain ⟨j67, hj67, h⟩ := ob h
        refine r_sld hX hS0 hWd hj67 d_LW_law_565 ?_
        obtain ⟨q68, hq68, h⟩ := ob h
        refine kcL_z (va_runV (As := [.long ((((xs j64).toInt64) <<< ((32 : Int32).toInt64 &&& 63)) ||| (((xs j65).toInt64) &&& 4294967295)), .int (xs j66), .int (xs j67)]) (rest := []) hX (m_NT_verify l  v1 ((((xs j64).toInt64) <<< ((32 : Int32).toInt64 &&& 63)) ||| (((xs j65).toInt64) &&& 4294967295)) (xs j66) (xs j67) hv1 hq68) (cb_NT_verify hts t_367 ⟨Nat.le_of_ble_eq_true rfl, Nat.le_of_ble_eq_true rfl⟩) (pv_NT hWd hv1) rfl rfl hl.1 rfl (lv_room (Nat.le_of_ble_eq_true rfl)) d_LW_law_566 ⟨Nat.le_refl _, Nat.le_refl _⟩) hWd (fun z69 H locs hWd => ?_)
        refine lv_aload_n hx hb d_LW_law_569 rfl (lv_at hl 2 rfl) ?_
        refine lv_aload_n hx hb d_LW_law_570 rfl (lv_at hl 0 rfl) ?_
        refine lv_iload_n hx hb d_LW_law_571 rfl (lv_at hl 3 rfl) ?_
        refine lv_iconst (v := 1) hx hb d_LW_law_572 (by decide) ?_
        refine lv_iadd hx hb d_LW_law_573 ?_
        obtain ⟨j70, hj70, h⟩ := ob h
        refine r_sld hX hS0 hWd hj70 d_LW_law_574 ?_
        refine lv_i2l hx hb d_LW_law_575 rfl ?_
        refine lv_bipush (v := 32) hx hb d_LW_law_576 (by decide) ?_
        refine lv_lshl hx hb d_LW_law_578 rfl ?_
        refine lv_aload_n hx hb d_LW_law_579 rfl (lv_at hl 0 rfl) ?_
        refine lv_iload_n hx hb d_LW_law_580 rfl (lv_at hl 3 rfl) ?_
        refine lv_iconst (v := 2) hx hb d_LW_law_581 (by decide) ?_
        refine lv_iadd hx hb d_LW_law_582 ?_
        obtain ⟨j71, hj71, h⟩ := ob h
        refine r_sld hX hS0 hWd hj71 d_LW_law_583 ?_
        refine lv_i2l hx hb d_LW_law_584 rfl ?_
        refine lv_ldc2 (v := 4294967295) hx hb hown (hts _ (List.mem_cons_of_mem _ t_661)) d_LW_law_585 ?_
        refine lv_land hx hb d_LW_law_588 ?_
        refine lv_lor hx hb d_LW_law_589 ?_
        refine lv_aload_n hx hb d_LW_law_590 rfl (lv_at hl 0 rfl) ?_
        refine lv_iload_n hx hb d_LW_law_591 rfl (lv_at hl 3 rfl) ?_
        refine lv_iconst (v := 3) hx hb d_LW_law_592 (by decide) ?_
        refine lv_iadd hx hb d_LW_law_593 ?_
        obtain ⟨j72, hj72, h⟩ := ob h
        refine r_sld hX hS0 hWd hj72 d_LW_law_594 ?_
        refine lv_aload_n hx hb d_LW_law_595 rfl (lv_at hl 0 rfl) ?_
        refine lv_iload_n hx hb d_LW_law_596 rfl (lv_at hl 3 rfl) ?_
        refine lv_iconst (v := 4) hx hb d_LW_law_597 (by decide) ?_
        refine lv_iadd hx hb d_LW_law_598 ?_
        obtain ⟨j73, hj73, h⟩ := ob h
        refine r_sld hX hS0 hWd hj73 d_LW_law_599 ?_
        obtain ⟨q74, hq74, h⟩ := ob h
        refine kcL_z (va_runV (As := [.long ((((xs j70).toInt64) <<< ((32 : Int32).toInt64 &&& 63)) ||| (((xs j71).toInt64) &&& 4294967295)), .int (xs j72), .int (xs j73)]) (rest := [.int q68.1]) hX (m_MO_verify l  v2 ((((xs j70).toInt64) <<< ((32 : Int32).toInt64 &&& 63)) ||| (((xs j71).toInt64) &&& 4294967295)) (xs j72) (xs j73) hv2 hq74) (cb_MO_verify hts t_632 ⟨Nat.le_of_ble_eq_true rfl, Nat.le_of_ble_eq_true rfl⟩) (pv_MO hWd hv2) rfl rfl hl.1 rfl (lv_room (Nat.le_of_ble_eq_true rfl)) d_LW_law_600 ⟨Nat.le_refl _, Nat.le_refl _⟩) hWd (fun z75 H locs hWd => ?_)
        refine lv_icmp_eq (tgt := 608) hx hb d_LW_law_603 (by decide) (fun hc => ?_) (fun hc => ?_)
        · replace h := ifP h hc
          refine lv_iinc (k := 3) (v := (v3 + 5)) (lv' := [(3, .int (v3 + 5)), (0, .ref b), (1, .ref v1), (2, .ref v2)]) hx hb d_LW_law_608 hl rfl (by rfl) (by decide) rfl (fun ls hl => ?_)
          refine lv_goto (tgt := 28) hx hb d_LW_law_611 (by decide) ?_
          exact ih v1 v2 (v3 + 5) q74.2 _ _ _ hv1 hv2 (lv_sub hl [1, 2, 3, 0] rfl) hWd h
        · replace h := ifN h hc
          refine lv_iconst (v := 0) hx hb d_LW_law_606 (by decide) ?_
          cases h
      replace h := ifN h hc16
      refine lv_tableOut (tgt := 608) hx hb d_LW_law_42 (tbOut17 hc0 hc1 hc2 hc3 hc4 hc5 hc6 hc7 hc8 hc9 hc10 hc11 hc12 hc13 hc14 hc15 hc16) (by decide) ?_
      refine lv_iinc (k := 3) (v := (v3 + 5)) (lv' := [(3, .int (v3 + 5)), (0, .ref b), (1, .ref v1), (2, .ref v2)]) hx hb d_LW_law_608 hl rfl (by rfl) (by decide) rfl (fun ls hl => ?_)
      refine lv_goto (tgt := 28) hx hb d_LW_law_611 (by decide) ?_
      exact ih v1 v2 (v3 + 5) M _ _ _ hv1 hv2 (lv_sub hl [1, 2, 3, 0] rfl) hWd h
