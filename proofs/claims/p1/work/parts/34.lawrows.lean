/-! The law: rows; the claim's words begun from the skeleton of this claim -/
abbrev b_LW_law : ByteArray := code
/-! THE CLAIM OUT OF ONE WALK OF THE LAW'S BODY. Your part is whole_start (and what it stands on); all else here is the same for every law, but numbers. -/
def R_law : String := "NibbleTrieLaw"
def lw_P (b : Addr) (xs : List Int32) (args : Array Value) (s : State) : Prop := args = #[.ref b] ∧ s.IntsAt b xs ∧ xs.length ≤ 6 ∧ (Jvm.Cond.and given_1 narrow_1).before args s = true
def lw_Q (_ : Array Value) (s : State) (o : Outcome) (t : State) : Prop := o = .returned (some (.int 1)) ∧ Framed s o t [] 600000 7302250
def lw_Z (below : List Frame) (a : Array Value) (s : State) : State → Prop := fun t => ∃ o, t.status = .running ∧ Ended t below o ∧ lw_Q a s o t
/-- the law's own end, with 1 on the stack, nothing written that was there before, its room as the claim has it -/
theorem lw_ret {p : Program} {l : Launch} {e : Env} {s : State} {m : MethodId} {below : List Frame} {meth : Method} {c : Code} {b : Nat} (hx : p.tables.exec = Jvm.exec) (hb : c.code = code) (hr : meth.sig.returnType = ret) (hlocks : meth.locks = false) {pc : Nat} {H : Heap} {ls : Array Slot} (hdg : decode code pc = .ok (.ireturn, 1)) : W p l e room_1 s m #[Value.ref b] below meth c H [] 600000 7302250 (lw_Z below #[Value.ref b] s) (F0 m pc ls [.int 1]) := by
  intro T hT X
  obtain ⟨fs, hret, hrun, hended, hW, hframe⟩ := X.leave (v := some (.int 1)) (hlocks := hlocks) (fun h => by rw [hr] at h; cases h)
  have hmeth' : T.vm.method? m = some meth := X.method'
  refine ⟨T.setFrames fs, ?_, .returned (some (.int 1)), hrun, hended, rfl, ⟨_, rfl⟩, hW, hframe⟩
  jvm_step X.here [X.here.top, hx, hb, hdg, hmeth', hr, ret, narrow_b1]
  (try refine ⟨rfl, ?_⟩); (try refine ⟨rfl, ?_⟩)
  first | (intro acts; rw [hret _ acts rfl rfl rfl]) | rw [hret _ _ rfl rfl rfl]
  exact Steps.refl _
/-- what holds at the law's entry: the machine, the code, the tables' words (any of lw_tbl by 'hts w (by decide +kernel)'), the script of L ints xs at the cell b, what the Statement gives of the start (any of its parts by flat_of_before) -/
def lw_At (p : Program) (s : State) (m : MethodId) (meth : Method) (c : Code) (b L : Nat) (xs : Nat → Int32) : Prop :=
  p.tables.exec = Jvm.exec ∧ c.code = code ∧ meth.sig.returnType = ret ∧ c.maxLocals = 4 ∧ s.vm.findClass R_law = some m.cls ∧ (∀ w ∈ lw_tbl, w.before #[Value.ref b] s = true) ∧ va_X b L xs s s.heap ∧ b < s.heap.size ∧ meth.locks = false ∧ (Jvm.Cond.and given_1 narrow_1).before #[Value.ref b] s = true
/-- the script: where it lies; the pool lies behind all that was there -/
def Sx (L : List Nat) (b Ls : Nat) (xs : Nat → Int32) (s : State) : Prop := va_X b Ls xs s s.heap ∧ b < s.heap.size ∧ ∀ q ∈ L, s.heap.size ≤ q
section LAWR
variable {p : Program} {l : Launch} {e : Env} {R : Room} {s : State} {m : MethodId} {args : Array Value} {below : List Frame} {meth : Method} {c : Code} {H : Heap} {locs : List Loc} {Q : State → Prop} {cc : ByteArray} {pc nL cells slots : Nat} {ls : Array Slot} {rest st0 : List Value} {E : En} {K G : Nat → Nat} {L : List Nat} {M M2 : Mm} {own : String} {qc : Cond} {av : Array Value} {b Ls : Nat} {xs : Nat → Int32}
theorem Sx.no (h : Sx L b Ls xs s) : ¬ AL L s.heap.size b := fun q => q.elim (fun q => by have := h.2.2 b q; have := h.2.1; omega) (fun q => by have := h.2.1; omega)
theorem r_sld (hX : CallFix p m c cc nL s args (qc :: tG) own) (hS0 : Sx L b Ls xs s) (hWd : Wd E K G L M s.heap H locs s) {i : Int32} {j : Nat} (hj : ix i Ls = some j) (hdg : decode cc pc = .ok (.iaload, 1)) (kk : W p l e R s m args below meth c H locs cells slots Q (F0 m (pc + 1) ls (.int (xs j) :: rest))) : W p l e R s m args below meth c H locs cells slots Q (F0 m pc ls (.int i :: .ref b :: rest)) := by
  obtain ⟨h1, rfl⟩ := ixE hj
  exact va_sld hX.1 hX.2.1 hS0.1 hS0.2.1 hS0.no hWd.2.2.1 h1 hdg kk
theorem r_slen (hX : CallFix p m c cc nL s args (qc :: tG) own) (hS0 : Sx L b Ls xs s) (hWd : Wd E K G L M s.heap H locs s) (hdg : decode cc pc = .ok (.arraylength, 1)) (kk : W p l e R s m args below meth c H locs cells slots Q (F0 m (pc + 1) ls (.int (Int32.ofNat Ls) :: rest))) : W p l e R s m args below meth c H locs cells slots Q (F0 m pc ls (.ref b :: rest)) :=
  va_slen hX.1 hX.2.1 hS0.1 hS0.2.1 hS0.no hWd.2.2.1 hdg kk
theorem lw_end (hX : CallFix p m c b_LW_law nL s #[Value.ref b] (qc :: tG) own) (hr : meth.sig.returnType = ret) (hlk : meth.locks = false) (hS0 : Sx L b Ls xs s) (hWd : Wd E K G L M s.heap H locs s) (hdg : decode b_LW_law pc = .ok (.ireturn, 1)) : W p l e room_1 s m #[Value.ref b] below meth c H locs 600000 7302250 (lw_Z below #[Value.ref b] s) (F0 m pc ls [.int 1]) :=
  va_forget (fun q hq => (hWd.2.2.1.2.2 q hq).elim (hS0.2.2 q.base) id) (lw_ret hX.1 hX.2.1 hr hlk hdg)
theorem kcL_i {v : Int32} (hr : va_Run p l e R s m args below meth c H locs cells slots 0 0 (F0 m pc ls st0) rest (QI E K G L H.size v M2 av) (AL L H.size)) (hWd : Wd E K G L M s.heap H locs s)
    (kk : ∀ (H1 : Heap) (locs1 : List Loc), Wd E K G L M2 s.heap H1 locs1 s → W p l e R s m args below meth c H1 locs1 cells slots Q (F0 m (pc + 3) ls (.int v :: rest))) : W p l e R s m args below meth c H locs cells slots Q (F0 m pc ls st0) := by
  refine va_calli (A1 := AL L H.size) hr hWd.2.2.1 (fun q _ h => al_le hWd.2.2.1 h) (fun q h => al_le hWd.2.2.1 h) (fun r u t H1 locs1 ht _ hp hB _ _ hS => ?_)
  subst hp
  exact kk H1 locs1 (back_wd hWd ht hB hS)
theorem kcL_z {v : Int32} (hr : va_Run p l e R s m args below meth c H locs cells slots 0 0 (F0 m pc ls st0) rest (QZ E K G L H.size v M2 av) (AL L H.size)) (hWd : Wd E K G L M s.heap H locs s)
    (kk : (v = 0 ∨ v = 1) → ∀ (H1 : Heap) (locs1 : List Loc), Wd E K G L M2 s.heap H1 locs1 s → W p l e R s m args below meth c H1 locs1 cells slots Q (F0 m (pc + 3) ls (.int v :: rest))) : W p l e R s m args below meth c H locs cells slots Q (F0 m pc ls st0) := by
  refine va_calli (A1 := AL L H.size) hr hWd.2.2.1 (fun q _ h => al_le hWd.2.2.1 h) (fun q h => al_le hWd.2.2.1 h) (fun r u t H1 locs1 ht _ hp hB _ _ hS => ?_)
  obtain ⟨hp, hz⟩ := hp
  subst hp
  exact kk hz H1 locs1 (back_wd hWd ht hB hS)
theorem kcL_l {v : Int64} (hr : va_Run p l e R s m args below meth c H locs cells slots 0 0 (F0 m pc ls st0) rest (QL E K G L H.size v M2 av) (AL L H.size)) (hWd : Wd E K G L M s.heap H locs s)
    (kk : ∀ (H1 : Heap) (locs1 : List Loc), Wd E K G L M2 s.heap H1 locs1 s → W p l e R s m args below meth c H1 locs1 cells slots Q (F0 m (pc + 3) ls (.long v :: rest))) : W p l e R s m args below meth c H locs cells slots Q (F0 m pc ls st0) := by
  refine va_calll (A1 := AL L H.size) hr hWd.2.2.1 (fun q _ h => al_le hWd.2.2.1 h) (fun q h => al_le hWd.2.2.1 h) (fun r u t H1 locs1 ht _ hp hB _ _ hS => ?_)
  subst hp
  exact kk H1 locs1 (back_wd hWd ht hB hS)
end LAWR
theorem tbOut17 {x : Int32} (h0 : ¬ x = 0) (h1 : ¬ x = 1) (h2 : ¬ x = 2) (h3 : ¬ x = 3) (h4 : ¬ x = 4) (h5 : ¬ x = 5) (h6 : ¬ x = 6) (h7 : ¬ x = 7) (h8 : ¬ x = 8) (h9 : ¬ x = 9) (h10 : ¬ x = 10) (h11 : ¬ x = 11) (h12 : ¬ x = 12) (h13 : ¬ x = 13) (h14 : ¬ x = 14) (h15 : ¬ x = 15) (h16 : ¬ x = 16) : x.toInt < 0 ∨ 16 < x.toInt := by
  have a0 := lv_neT (a := 0) h0 (by decide)
  have a1 := lv_neT (a := 1) h1 (by decide)
  have a2 := lv_neT (a := 2) h2 (by decide)
  have a3 := lv_neT (a := 3) h3 (by decide)
  have a4 := lv_neT (a := 4) h4 (by decide)
  have a5 := lv_neT (a := 5) h5 (by decide)
  have a6 := lv_neT (a := 6) h6 (by decide)
  have a7 := lv_neT (a := 7) h7 (by decide)
  have a8 := lv_neT (a := 8) h8 (by decide)
  have a9 := lv_neT (a := 9) h9 (by decide)
  have a10 := lv_neT (a := 10) h10 (by decide)
  have a11 := lv_neT (a := 11) h11 (by decide)
  have a12 := lv_neT (a := 12) h12 (by decide)
  have a13 := lv_neT (a := 13) h13 (by decide)
  have a14 := lv_neT (a := 14) h14 (by decide)
  have a15 := lv_neT (a := 15) h15 (by decide)
  have a16 := lv_neT (a := 16) h16 (by decide)
  omega
theorem t_136 : Cond.methodLink "NibbleTrieLaw" 21 ⟨"NibbleTrie", "put", "(II)I"⟩ ∈ tG := tg_of (i := 136) (by decide +kernel) (by decide +kernel)
theorem t_464 : Cond.methodLink "NibbleTrieLaw" 25 ⟨"NibbleTrieModel", "put", "(II)I"⟩ ∈ tG := tg_of (i := 464) (by decide +kernel) (by decide +kernel)
theorem t_207 : Cond.methodLink "NibbleTrieLaw" 26 ⟨"NibbleTrie", "get", "(I)I"⟩ ∈ tG := tg_of (i := 207) (by decide +kernel) (by decide +kernel)
theorem t_477 : Cond.methodLink "NibbleTrieLaw" 30 ⟨"NibbleTrieModel", "get", "(I)I"⟩ ∈ tG := tg_of (i := 477) (by decide +kernel) (by decide +kernel)
theorem t_216 : Cond.methodLink "NibbleTrieLaw" 31 ⟨"NibbleTrie", "size", "()I"⟩ ∈ tG := tg_of (i := 216) (by decide +kernel) (by decide +kernel)
theorem t_485 : Cond.methodLink "NibbleTrieLaw" 35 ⟨"NibbleTrieModel", "size", "()I"⟩ ∈ tG := tg_of (i := 485) (by decide +kernel) (by decide +kernel)
theorem t_220 : Cond.methodLink "NibbleTrieLaw" 36 ⟨"NibbleTrie", "root", "()J"⟩ ∈ tG := tg_of (i := 220) (by decide +kernel) (by decide +kernel)
theorem t_489 : Cond.methodLink "NibbleTrieLaw" 40 ⟨"NibbleTrieModel", "root", "()J"⟩ ∈ tG := tg_of (i := 489) (by decide +kernel) (by decide +kernel)
theorem t_251 : Cond.methodLink "NibbleTrieLaw" 41 ⟨"NibbleTrie", "count", "(I)I"⟩ ∈ tG := tg_of (i := 251) (by decide +kernel) (by decide +kernel)
theorem t_548 : Cond.methodLink "NibbleTrieLaw" 44 ⟨"NibbleTrieModel", "count", "(I)I"⟩ ∈ tG := tg_of (i := 548) (by decide +kernel) (by decide +kernel)
theorem t_255 : Cond.methodLink "NibbleTrieLaw" 45 ⟨"NibbleTrie", "commit", "(I)I"⟩ ∈ tG := tg_of (i := 255) (by decide +kernel) (by decide +kernel)
theorem t_552 : Cond.methodLink "NibbleTrieLaw" 48 ⟨"NibbleTrieModel", "commit", "(I)I"⟩ ∈ tG := tg_of (i := 552) (by decide +kernel) (by decide +kernel)
theorem t_295 : Cond.methodLink "NibbleTrieLaw" 49 ⟨"NibbleTrie", "crash", "()I"⟩ ∈ tG := tg_of (i := 295) (by decide +kernel) (by decide +kernel)
theorem t_572 : Cond.methodLink "NibbleTrieLaw" 52 ⟨"NibbleTrieModel", "crash", "()I"⟩ ∈ tG := tg_of (i := 572) (by decide +kernel) (by decide +kernel)
theorem t_299 : Cond.methodLink "NibbleTrieLaw" 53 ⟨"NibbleTrie", "versions", "()I"⟩ ∈ tG := tg_of (i := 299) (by decide +kernel) (by decide +kernel)
theorem t_576 : Cond.methodLink "NibbleTrieLaw" 56 ⟨"NibbleTrieModel", "versions", "()I"⟩ ∈ tG := tg_of (i := 576) (by decide +kernel) (by decide +kernel)
theorem t_303 : Cond.methodLink "NibbleTrieLaw" 57 ⟨"NibbleTrie", "at", "(II)I"⟩ ∈ tG := tg_of (i := 303) (by decide +kernel) (by decide +kernel)
theorem t_580 : Cond.methodLink "NibbleTrieLaw" 60 ⟨"NibbleTrieModel", "at", "(II)I"⟩ ∈ tG := tg_of (i := 580) (by decide +kernel) (by decide +kernel)
theorem t_311 : Cond.methodLink "NibbleTrieLaw" 61 ⟨"NibbleTrie", "rootAt", "(I)J"⟩ ∈ tG := tg_of (i := 311) (by decide +kernel) (by decide +kernel)
theorem t_588 : Cond.methodLink "NibbleTrieLaw" 65 ⟨"NibbleTrieModel", "rootAt", "(I)J"⟩ ∈ tG := tg_of (i := 588) (by decide +kernel) (by decide +kernel)
theorem t_315 : Cond.methodLink "NibbleTrieLaw" 66 ⟨"NibbleTrie", "stored", "()I"⟩ ∈ tG := tg_of (i := 315) (by decide +kernel) (by decide +kernel)
theorem t_592 : Cond.methodLink "NibbleTrieLaw" 69 ⟨"NibbleTrieModel", "stored", "()I"⟩ ∈ tG := tg_of (i := 592) (by decide +kernel) (by decide +kernel)
theorem t_661 : Cond.constantLong "NibbleTrieLaw" 70 (4294967295) ∈ tG := tg_of (i := 661) (by decide +kernel) (by decide +kernel)
theorem t_323 : Cond.methodLink "NibbleTrieLaw" 72 ⟨"NibbleTrie", "uses", "(J)I"⟩ ∈ tG := tg_of (i := 323) (by decide +kernel) (by decide +kernel)
theorem t_600 : Cond.methodLink "NibbleTrieLaw" 76 ⟨"NibbleTrieModel", "uses", "(J)I"⟩ ∈ tG := tg_of (i := 600) (by decide +kernel) (by decide +kernel)
theorem t_335 : Cond.methodLink "NibbleTrieLaw" 77 ⟨"NibbleTrie", "prove", "(II)I"⟩ ∈ tG := tg_of (i := 335) (by decide +kernel) (by decide +kernel)
theorem t_612 : Cond.methodLink "NibbleTrieLaw" 80 ⟨"NibbleTrieModel", "prove", "(II)I"⟩ ∈ tG := tg_of (i := 612) (by decide +kernel) (by decide +kernel)
theorem t_351 : Cond.methodLink "NibbleTrieLaw" 81 ⟨"NibbleTrie", "word", "(I)J"⟩ ∈ tG := tg_of (i := 351) (by decide +kernel) (by decide +kernel)
theorem t_620 : Cond.methodLink "NibbleTrieLaw" 84 ⟨"NibbleTrieModel", "word", "(I)J"⟩ ∈ tG := tg_of (i := 620) (by decide +kernel) (by decide +kernel)
theorem t_359 : Cond.methodLink "NibbleTrieLaw" 85 ⟨"NibbleTrie", "alter", "(IJ)Z"⟩ ∈ tG := tg_of (i := 359) (by decide +kernel) (by decide +kernel)
theorem t_624 : Cond.methodLink "NibbleTrieLaw" 89 ⟨"NibbleTrieModel", "alter", "(IJ)Z"⟩ ∈ tG := tg_of (i := 624) (by decide +kernel) (by decide +kernel)
theorem t_363 : Cond.methodLink "NibbleTrieLaw" 90 ⟨"NibbleTrie", "cut", "()I"⟩ ∈ tG := tg_of (i := 363) (by decide +kernel) (by decide +kernel)
theorem t_628 : Cond.methodLink "NibbleTrieLaw" 93 ⟨"NibbleTrieModel", "cut", "()I"⟩ ∈ tG := tg_of (i := 628) (by decide +kernel) (by decide +kernel)
theorem t_367 : Cond.methodLink "NibbleTrieLaw" 94 ⟨"NibbleTrie", "verify", "(JII)Z"⟩ ∈ tG := tg_of (i := 367) (by decide +kernel) (by decide +kernel)
theorem t_632 : Cond.methodLink "NibbleTrieLaw" 98 ⟨"NibbleTrieModel", "verify", "(JII)Z"⟩ ∈ tG := tg_of (i := 632) (by decide +kernel) (by decide +kernel)
def f_LW_law_28 (G : Nat → Nat) (xs : Nat → Int32) (Ls : Nat) : Nat → Nat → Nat → Int32 → Mm → Option Unit
  | 0, _, _, _, _ => none
  | n + 1, v1, v2, v3, M => if ((Int32.ofNat Ls) - 5) < v3 then (some ()) else ((ix v3 Ls).bind fun j1 => if ((xs j1) &&& 31) = 0 then ((ix (v3 + 1) Ls).bind fun j2 => (ix (v3 + 2) Ls).bind fun j3 => (f_NT_put G v1 (xs j2) (xs j3) M).bind fun q4 => (ix (v3 + 1) Ls).bind fun j5 => (ix (v3 + 2) Ls).bind fun j6 => (f_MO_put G v2 (xs j5) (xs j6) q4.2).bind fun q7 => if q4.1 = q7.1 then (f_LW_law_28 G xs Ls n v1 v2 (v3 + 5) q7.2) else (none)) else if ((xs j1) &&& 31) = 1 then ((ix (v3 + 1) Ls).bind fun j8 => (f_NT_get G v1 (xs j8) M).bind fun q9 => (ix (v3 + 1) Ls).bind fun j10 => (f_MO_get G v2 (xs j10) M).bind fun q11 => if q9 = q11 then (f_LW_law_28 G xs Ls n v1 v2 (v3 + 5) M) else (none)) else if ((xs j1) &&& 31) = 2 then ((f_MO_size G v2 M).bind fun q12 => if (f_NT_size G v1 M) = q12 then (f_LW_law_28 G xs Ls n v1 v2 (v3 + 5) M) else (none)) else if ((xs j1) &&& 31) = 3 then ((f_NT_root G v1 M).bind fun q13 => (f_MO_root G v2 q13.2).bind fun q14 => if (lg_cmp q13.1 q14.1) = 0 then (f_LW_law_28 G xs Ls n v1 v2 (v3 + 5) q14.2) else (none)) else if ((xs j1) &&& 31) = 4 then ((ix (v3 + 1) Ls).bind fun j15 => (ix (v3 + 1) Ls).bind fun j16 => (f_MO_count G v2 (xs j16) M).bind fun q17 => if (f_NT_count G v1 (xs j15) M) = q17.1 then (f_LW_law_28 G xs Ls n v1 v2 (v3 + 5) q17.2) else (none)) else if ((xs j1) &&& 31) = 5 then ((ix (v3 + 1) Ls).bind fun j18 => (f_NT_commit G v1 (xs j18) M).bind fun q19 => (ix (v3 + 1) Ls).bind fun j20 => (f_MO_commit G v2 (xs j20) q19.2).bind fun q21 => if q19.1 = q21.1 then (f_LW_law_28 G xs Ls n v1 v2 (v3 + 5) q21.2) else (none)) else if ((xs j1) &&& 31) = 6 then ((f_NT_crash G v1 M).bind fun q22 => (f_MO_crash G v2 q22.2).bind fun q23 => if q22.1 = q23.1 then (f_LW_law_28 G xs Ls n v1 v2 (v3 + 5) q23.2) else (none)) else if ((xs j1) &&& 31) = 7 then (if (f_NT_versions G v1 M) = (f_MO_versions G v2 M) then (f_LW_law_28 G xs Ls n v1 v2 (v3 + 5) M) else (none)) else if ((xs j1) &&& 31) = 8 then ((ix (v3 + 1) Ls).bind fun j24 => (ix (v3 + 2) Ls).bind fun j25 => (f_NT_at G v1 (xs j24) (xs j25) M).bind fun q26 => (ix (v3 + 1) Ls).bind fun j27 => (ix (v3 + 2) Ls).bind fun j28 => (f_MO_at G v2 (xs j27) (xs j28) M).bind fun q29 => if q26 = q29 then (f_LW_law_28 G xs Ls n v1 v2 (v3 + 5) M) else (none)) else if ((xs j1) &&& 31) = 9 then ((ix (v3 + 1) Ls).bind fun j30 => (f_NT_rootAt G v1 (xs j30) M).bind fun q31 => (ix (v3 + 1) Ls).bind fun j32 => (f_MO_rootAt G v2 (xs j32) q31.2).bind fun q33 => if (lg_cmp q31.1 q33.1) = 0 then (f_LW_law_28 G xs Ls n v1 v2 (v3 + 5) q33.2) else (none)) else if ((xs j1) &&& 31) = 10 then ((f_NT_stored G v1 M).bind fun q34 => (f_MO_stored G v2 M).bind fun q35 => if q34 = q35 then (f_LW_law_28 G xs Ls n v1 v2 (v3 + 5) M) else (none)) else if ((xs j1) &&& 31) = 11 then ((ix (v3 + 1) Ls).bind fun j36 => (ix (v3 + 2) Ls).bind fun j37 => (f_NT_uses G v1 ((((xs j36).toInt64) <<< ((32 : Int32).toInt64 &&& 63)) ||| (((xs j37).toInt64) &&& 4294967295)) M).bind fun q38 => (ix (v3 + 1) Ls).bind fun j39 => (ix (v3 + 2) Ls).bind fun j40 => (f_MO_uses G v2 ((((xs j39).toInt64) <<< ((32 : Int32).toInt64 &&& 63)) ||| (((xs j40).toInt64) &&& 4294967295)) q38.2).bind fun q41 => if q38.1 = q41 then (f_LW_law_28 G xs Ls n v1 v2 (v3 + 5) q38.2) else (none)) else if ((xs j1) &&& 31) = 12 then ((ix (v3 + 1) Ls).bind fun j42 => (ix (v3 + 2) Ls).bind fun j43 => (f_NT_prove G v1 (xs j42) (xs j43) M).bind fun q44 => (ix (v3 + 1) Ls).bind fun j45 => (ix (v3 + 2) Ls).bind fun j46 => (f_MO_prove G v2 (xs j45) (xs j46) q44.2).bind fun q47 => if q44.1 = q47.1 then (f_LW_law_28 G xs Ls n v1 v2 (v3 + 5) q47.2) else (none)) else if ((xs j1) &&& 31) = 13 then ((ix (v3 + 1) Ls).bind fun j48 => (f_NT_word G v1 (xs j48) M).bind fun q49 => (ix (v3 + 1) Ls).bind fun j50 => (f_MO_word G v2 (xs j50) M).bind fun q51 => if (lg_cmp q49 q51) = 0 then (f_LW_law_28 G xs Ls n v1 v2 (v3 + 5) M) else (none)) else if ((xs j1) &&& 31) = 14 then ((ix (v3 + 1) Ls).bind fun j52 => (ix (v3 + 2) Ls).bind fun j53 => (ix (v3 + 3) Ls).bind fun j54 => (f_NT_alter G v1 (xs j52) ((((xs j53).toInt64) <<< ((32 : Int32).toInt64 &&& 63)) ||| (((xs j54).toInt64) &&& 4294967295)) M).bind fun q55 => (ix (v3 + 1) Ls).bind fun j57 => (ix (v3 + 2) Ls).bind fun j58 => (ix (v3 + 3) Ls).bind fun j59 => (f_MO_alter G v2 (xs j57) ((((xs j58).toInt64) <<< ((32 : Int32).toInt64 &&& 63)) ||| (((xs j59).toInt64) &&& 4294967295)) q55.2).bind fun q60 => if q55.1 = q60.1 then (f_LW_law_28 G xs Ls n v1 v2 (v3 + 5) q60.2) else (none)) else if ((xs j1) &&& 31) = 15 then (st (f_NT_cut G v1 M) fun q62 => st (f_MO_cut G v2 q62.2) fun q63 => if q62.1 = q63.1 then (f_LW_law_28 G xs Ls n v1 v2 (v3 + 5) q63.2) else (none)) else if ((xs j1) &&& 31) = 16 then ((ix (v3 + 1) Ls).bind fun j64 => (ix (v3 + 2) Ls).bind fun j65 => (ix (v3 + 3) Ls).bind fun j66 => (ix (v3 + 4) Ls).bind fun j67 => (f_NT_verify G v1 ((((xs j64).toInt64) <<< ((32 : Int32).toInt64 &&& 63)) ||| (((xs j65).toInt64) &&& 4294967295)) (xs j66) (xs j67) M).bind fun q68 => (ix (v3 + 1) Ls).bind fun j70 => (ix (v3 + 2) Ls).bind fun j71 => (ix (v3 + 3) Ls).bind fun j72 => (ix (v3 + 4) Ls).bind fun j73 => (f_MO_verify G v2 ((((xs j70).toInt64) <<< ((32 : Int32).toInt64 &&& 63)) ||| (((xs j71).toInt64) &&& 4294967295)) (xs j72) (xs j73) q68.2).bind fun q74 => if q68.1 = q74.1 then (f_LW_law_28 G xs Ls n v1 v2 (v3 + 5) q74.2) else (none)) else (f_LW_law_28 G xs Ls n v1 v2 (v3 + 5) M))
