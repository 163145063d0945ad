/-! Rows for calls and ends: methods over the pool (Q.. of a world), methods that touch no cell (P..). -/
def QI (E : En) (K G : Nat → Nat) (L : List Nat) (sz : Nat) (v : Int32) (M : Mm) : Array Value → State → Outcome → State → Prop := va_Qi (fun r (_ : Unit) => r = v) (fun _ t => Wt E K G L M (AL L sz) t) (AL L sz)
def QZ (E : En) (K G : Nat → Nat) (L : List Nat) (sz : Nat) (v : Int32) (M : Mm) : Array Value → State → Outcome → State → Prop := va_Qi (fun r (_ : Unit) => r = v ∧ (v = 0 ∨ v = 1)) (fun _ t => Wt E K G L M (AL L sz) t) (AL L sz)
def QL (E : En) (K G : Nat → Nat) (L : List Nat) (sz : Nat) (v : Int64) (M : Mm) : Array Value → State → Outcome → State → Prop := va_Ql (fun r (_ : Unit) => r = v) (fun _ t => Wt E K G L M (AL L sz) t) (AL L sz)
def QV (E : En) (K G : Nat → Nat) (L : List Nat) (sz : Nat) (M : Mm) : Array Value → State → Outcome → State → Prop := va_Qv (fun (_ : Unit) => True) (fun _ t => Wt E K G L M (AL L sz) t) (AL L sz)
def PI (v : Int32) : Array Value → State → Outcome → State → Prop := fun _ st oc t => oc = .returned (some (.int v)) ∧ t.heap = st.heap
def PZ (v : Int32) : Array Value → State → Outcome → State → Prop := fun _ st oc t => (oc = .returned (some (.int v)) ∧ t.heap = st.heap) ∧ (v = 0 ∨ v = 1)
def PL (v : Int64) : Array Value → State → Outcome → State → Prop := fun _ st oc t => oc = .returned (some (.long v)) ∧ t.heap = st.heap
section CALL
variable {p : Program} {l : Launch} {e : Env} {R : Room} {s : State} {m : MethodId} {args : Array Value} {below : List Frame} {meth : Method} {c : Code} {H : Heap} {locs : List Loc} {Q : State → Prop} {cc : ByteArray} {pc nL : Nat} {ls : Array Slot} {rest st0 : List Value} {E : En} {K G : Nat → Nat} {L : List Nat} {M M2 : Mm} {own : String} {qc : Cond} {av : Array Value}
theorem back_wd {t : State} {H1 : Heap} {locs1 : List Loc} (hWd : Wd E K G L M s.heap H locs s) (ht : t.heap = H1) (hB : Wt E K G L M2 (AL L H.size) t) (hS : va_S (AL L s.heap.size) s.heap H1 locs1) : Wd E K G L M2 s.heap H1 locs1 s :=
  ⟨by rw [← ht]; exact hB.1, pl_at hB.2.2.1 (fun _ h => Or.inl h), hS, hWd.2.2.2.1, hB.2.2.2, hWd.2.2.2.2.2⟩
theorem kc_i {v : Int32} (hr : va_Run p l e R s m args below meth c H locs 0 0 0 0 (F0 m pc ls st0) rest (QI E K G L H.size v M2 av) (AL L H.size)) (hWd : Wd E K G L M s.heap H locs s)
    (kk : ∀ (H1 : Heap) (locs1 : List Loc), Wd E K G L M2 s.heap H1 locs1 s → W p l e R s m args below meth c H1 locs1 0 0 Q (F0 m (pc + 3) ls (.int v :: rest))) : W p l e R s m args below meth c H locs 0 0 Q (F0 m pc ls st0) := by
  refine va_calli (A1 := AL L H.size) hr hWd.2.2.1 (fun q _ h => al_le hWd.2.2.1 h) (fun q h => al_le hWd.2.2.1 h) (fun r u t H1 locs1 ht _ hp hB _ _ hS => ?_)
  subst hp
  exact kk H1 locs1 (back_wd hWd ht hB hS)
theorem kc_z {v : Int32} (hr : va_Run p l e R s m args below meth c H locs 0 0 0 0 (F0 m pc ls st0) rest (QZ E K G L H.size v M2 av) (AL L H.size)) (hWd : Wd E K G L M s.heap H locs s)
    (kk : (v = 0 ∨ v = 1) → ∀ (H1 : Heap) (locs1 : List Loc), Wd E K G L M2 s.heap H1 locs1 s → W p l e R s m args below meth c H1 locs1 0 0 Q (F0 m (pc + 3) ls (.int v :: rest))) : W p l e R s m args below meth c H locs 0 0 Q (F0 m pc ls st0) := by
  refine va_calli (A1 := AL L H.size) hr hWd.2.2.1 (fun q _ h => al_le hWd.2.2.1 h) (fun q h => al_le hWd.2.2.1 h) (fun r u t H1 locs1 ht _ hp hB _ _ hS => ?_)
  obtain ⟨hp, hz⟩ := hp
  subst hp
  exact kk hz H1 locs1 (back_wd hWd ht hB hS)
theorem kc_l {v : Int64} (hr : va_Run p l e R s m args below meth c H locs 0 0 0 0 (F0 m pc ls st0) rest (QL E K G L H.size v M2 av) (AL L H.size)) (hWd : Wd E K G L M s.heap H locs s)
    (kk : ∀ (H1 : Heap) (locs1 : List Loc), Wd E K G L M2 s.heap H1 locs1 s → W p l e R s m args below meth c H1 locs1 0 0 Q (F0 m (pc + 3) ls (.long v :: rest))) : W p l e R s m args below meth c H locs 0 0 Q (F0 m pc ls st0) := by
  refine va_calll (A1 := AL L H.size) hr hWd.2.2.1 (fun q _ h => al_le hWd.2.2.1 h) (fun q h => al_le hWd.2.2.1 h) (fun r u t H1 locs1 ht _ hp hB _ _ hS => ?_)
  subst hp
  exact kk H1 locs1 (back_wd hWd ht hB hS)
theorem kc_v (hr : va_Run p l e R s m args below meth c H locs 0 0 0 0 (F0 m pc ls st0) rest (QV E K G L H.size M2 av) (AL L H.size)) (hWd : Wd E K G L M s.heap H locs s)
    (kk : ∀ (H1 : Heap) (locs1 : List Loc), Wd E K G L M2 s.heap H1 locs1 s → W p l e R s m args below meth c H1 locs1 0 0 Q (F0 m (pc + 3) ls rest)) : W p l e R s m args below meth c H locs 0 0 Q (F0 m pc ls st0) := by
  refine va_callv (A1 := AL L H.size) hr hWd.2.2.1 (fun q _ h => al_le hWd.2.2.1 h) (fun q h => al_le hWd.2.2.1 h) (fun u t H1 locs1 ht _ _ hB _ _ hS => ?_)
  exact kk H1 locs1 (back_wd hWd ht hB hS)
theorem kp_i {v : Int32} (hr : va_Run p l e R s m args below meth c H locs 0 0 0 0 (F0 m pc ls st0) rest (PI v av) (fun _ => False))
    (kk : W p l e R s m args below meth c H locs 0 0 Q (F0 m (pc + 3) ls (.int v :: rest))) : W p l e R s m args below meth c H locs 0 0 Q (F0 m pc ls st0) := by
  intro T hT X
  obtain ⟨v, st₀, t, T', L, h0, X', hL, e1, -, ⟨hv, hh⟩, st⟩ := hr T hT X
  cases hv
  obtain ⟨t2, a1, b1⟩ := kk T' (by rw [e1, hh, h0]) (Stand.forget X' (fun q h => (hL q h).elim))
  exact ⟨t2, st t2 a1, b1⟩
theorem kp_z {v : Int32} (hr : va_Run p l e R s m args below meth c H locs 0 0 0 0 (F0 m pc ls st0) rest (PZ v av) (fun _ => False))
    (kk : (v = 0 ∨ v = 1) → W p l e R s m args below meth c H locs 0 0 Q (F0 m (pc + 3) ls (.int v :: rest))) : W p l e R s m args below meth c H locs 0 0 Q (F0 m pc ls st0) := by
  intro T hT X
  obtain ⟨v, st₀, t, T', L, h0, X', hL, e1, -, ⟨⟨hv, hh⟩, hz⟩, st⟩ := hr T hT X
  cases hv
  obtain ⟨t2, a1, b1⟩ := kk hz T' (by rw [e1, hh, h0]) (Stand.forget X' (fun q h => (hL q h).elim))
  exact ⟨t2, st t2 a1, b1⟩
theorem kp_l {v : Int64} (hr : va_Run p l e R s m args below meth c H locs 0 0 0 0 (F0 m pc ls st0) rest (PL v av) (fun _ => False))
    (kk : W p l e R s m args below meth c H locs 0 0 Q (F0 m (pc + 3) ls (.long v :: rest))) : W p l e R s m args below meth c H locs 0 0 Q (F0 m pc ls st0) := by
  intro T hT X
  obtain ⟨v, st₀, t, T', L, h0, X', hL, e1, -, ⟨hv, hh⟩, st⟩ := hr T hT X
  cases hv
  obtain ⟨t2, a1, b1⟩ := kk T' (by rw [e1, hh, h0]) (Stand.forget X' (fun q h => (hL q h).elim))
  exact ⟨t2, st t2 a1, b1⟩
theorem recvV {k : Nat} {C : String} {b ci : Nat} {q : vw_C} {fs : List Value} (hWd : Wd E K G L M s.heap H locs s) (h0 : K b ≠ 0) (he : enc E K G M b = .inr (ci, fs)) (hc : classes[ci]? = some q) (hC : q.1 = C) {As : List Value} : PreV s H C b (va_Pc (.ref b :: As) (Wp E K G L M H.size)) As := by
  obtain ⟨k, hk⟩ := pool hWd h0
  rw [he] at hk
  subst hC
  exact ⟨Wd.blind, va_recv hWd.2.2.2.1 hWd.1 hc hk, fun _ hU hW => ⟨rfl, hWd.pre hU hW⟩⟩
theorem pv_NT {b : Nat} (hWd : Wd E K G L M s.heap H locs s) (hb : K b = 5) {As : List Value} : PreV s H R_NT b (va_Pc (.ref b :: As) (Wp E K G L M H.size)) As := recvV (k := 0) hWd (by rw [hb]; decide) (enc5 hb) rfl rfl
theorem pv_TR {b : Nat} (hWd : Wd E K G L M s.heap H locs s) (hb : K b = 6) {As : List Value} : PreV s H R_TR b (va_Pc (.ref b :: As) (Wp E K G L M H.size)) As := recvV (k := 0) hWd (by rw [hb]; decide) (enc6 hb) rfl rfl
theorem pv_PM {b : Nat} (hWd : Wd E K G L M s.heap H locs s) (hb : K b = 7) {As : List Value} : PreV s H R_PM b (va_Pc (.ref b :: As) (Wp E K G L M H.size)) As := recvV (k := 0) hWd (by rw [hb]; decide) (enc7 hb) rfl rfl
theorem pv_PF {b : Nat} (hWd : Wd E K G L M s.heap H locs s) (hb : K b = 8) {As : List Value} : PreV s H R_PF b (va_Pc (.ref b :: As) (Wp E K G L M H.size)) As := recvV (k := 0) hWd (by rw [hb]; decide) (enc8 hb) rfl rfl
theorem pv_MO {b : Nat} (hWd : Wd E K G L M s.heap H locs s) (hb : K b = 9) {As : List Value} : PreV s H R_MO b (va_Pc (.ref b :: As) (Wp E K G L M H.size)) As := recvV (k := 0) hWd (by rw [hb]; decide) (enc9 hb) rfl rfl
theorem Wd.wt {t : State} (hWd : Wd E K G L M s.heap H locs s) (ht : t.heap = H) (hW : s.WarmedH t.vm) : Wt E K G L M (AL L s.heap.size) t := ⟨by rw [ht]; exact hWd.1, va_K.moved hW.alike hWd.2.2.2.1, hWd.2.1, hWd.2.2.2.2.1⟩
theorem e_iret {v : Int32} (hX : CallFix p m c cc nL s args (qc :: tG) own) (hr : meth.sig.returnType = some .int) (hlk : meth.locks = false) (hWd : Wd E K G L M s.heap H locs s) (hdg : decode cc pc = .ok (.ireturn, 1)) : W p l e R s m args below meth c H locs 0 0 (MQ below (QI E K G L s.heap.size v M) args s 0 0 (AL L s.heap.size)) (F0 m pc ls [.int v]) :=
  W.iret hX.1 hX.2.1 hr (fun t ht hW => ⟨⟨v, (), rfl, rfl, hWd.wt ht hW⟩, hWd.2.2.1.F ht⟩) hWd.2.2.1.2.2 hdg hlk
theorem e_zret {v : Int32} (hX : CallFix p m c cc nL s args (qc :: tG) own) (hr : meth.sig.returnType = some .boolean) (hlk : meth.locks = false) (hWd : Wd E K G L M s.heap H locs s) (hz : v = 0 ∨ v = 1) (hdg : decode cc pc = .ok (.ireturn, 1)) : W p l e R s m args below meth c H locs 0 0 (MQ below (QZ E K G L s.heap.size v M) args s 0 0 (AL L s.heap.size)) (F0 m pc ls [.int v]) :=
  W.zret hX.1 hX.2.1 hr (by rcases hz with rfl | rfl <;> rfl) (fun t ht hW => ⟨⟨v, (), rfl, ⟨rfl, hz⟩, hWd.wt ht hW⟩, hWd.2.2.1.F ht⟩) hWd.2.2.1.2.2 hdg hlk
theorem e_lret {v : Int64} (hX : CallFix p m c cc nL s args (qc :: tG) own) (hr : meth.sig.returnType = some .long) (hlk : meth.locks = false) (hWd : Wd E K G L M s.heap H locs s) (hdg : decode cc pc = .ok (.lreturn, 1)) : W p l e R s m args below meth c H locs 0 0 (MQ below (QL E K G L s.heap.size v M) args s 0 0 (AL L s.heap.size)) (F0 m pc ls [.long v]) :=
  W.lret hX.1 hX.2.1 hr (fun t ht hW => ⟨⟨v, (), rfl, rfl, hWd.wt ht hW⟩, hWd.2.2.1.F ht⟩) hWd.2.2.1.2.2 hdg hlk
theorem e_vret (hX : CallFix p m c cc nL s args (qc :: tG) own) (hr : meth.sig.returnType = none) (hlk : meth.locks = false) (hWd : Wd E K G L M s.heap H locs s) (hdg : decode cc pc = .ok (.return_, 1)) : W p l e R s m args below meth c H locs 0 0 (MQ below (QV E K G L s.heap.size M) args s 0 0 (AL L s.heap.size)) (F0 m pc ls []) :=
  W.vret hX.1 hX.2.1 hr (fun t ht hW => ⟨⟨(), rfl, trivial, hWd.wt ht hW⟩, hWd.2.2.1.F ht⟩) hWd.2.2.1.2.2 hdg hlk
theorem p_iret {v : Int32} (hX : CallFix p m c cc nL s args (qc :: tG) own) (hr : meth.sig.returnType = some .int) (hlk : meth.locks = false) (hdg : decode cc pc = .ok (.ireturn, 1)) : W p l e R s m args below meth c s.heap [] 0 0 (MQ below (PI v) args s 0 0 (fun _ => False)) (F0 m pc ls [.int v]) :=
  W.iret hX.1 hX.2.1 hr (fun t ht _ => ⟨rfl, ht⟩) (fun q h => absurd h List.not_mem_nil) hdg hlk
theorem p_zret {v : Int32} (hX : CallFix p m c cc nL s args (qc :: tG) own) (hr : meth.sig.returnType = some .boolean) (hlk : meth.locks = false) (hz : v = 0 ∨ v = 1) (hdg : decode cc pc = .ok (.ireturn, 1)) : W p l e R s m args below meth c s.heap [] 0 0 (MQ below (PZ v) args s 0 0 (fun _ => False)) (F0 m pc ls [.int v]) :=
  W.zret hX.1 hX.2.1 hr (by rcases hz with rfl | rfl <;> rfl) (fun t ht _ => ⟨⟨rfl, ht⟩, hz⟩) (fun q h => absurd h List.not_mem_nil) hdg hlk
theorem p_lret {v : Int64} (hX : CallFix p m c cc nL s args (qc :: tG) own) (hr : meth.sig.returnType = some .long) (hlk : meth.locks = false) (hdg : decode cc pc = .ok (.lreturn, 1)) : W p l e R s m args below meth c s.heap [] 0 0 (MQ below (PL v) args s 0 0 (fun _ => False)) (F0 m pc ls [.long v]) :=
  W.lret hX.1 hX.2.1 hr (fun t ht _ => ⟨rfl, ht⟩) (fun q h => absurd h List.not_mem_nil) hdg hlk
theorem tbIn {dflt lo hi : Int} {offs : Array Int} {len : Nat} {x k : Int32} {off : Int} {tgt : Nat} {cells slots : Nat} (hexec : p.tables.exec = Jvm.exec) (hb : c.code = cc) (hdg : decode cc pc = .ok (.tableswitch dflt lo hi offs, len)) (hk : x = k) (h1 : ¬ k.toInt < lo) (h2 : ¬ hi < k.toInt) (ho : offs[(k.toInt - lo).toNat]? = some off) (ht : (pc : Int) + off = (tgt : Int))
    (kk : W p l e R s m args below meth c H locs cells slots Q (F0 m tgt ls rest)) : W p l e R s m args below meth c H locs cells slots Q (F0 m pc ls (.int x :: rest)) := by
  subst hk
  exact lv_tableIn hexec hb hdg h1 h2 ho ht kk
end CALL
theorem tbOut3 {x : Int32} (h0 : ¬ x = 0) (h1 : ¬ x = 1) (h2 : ¬ x = 2) : x.toInt < 0 ∨ 2 < x.toInt := by
  have a0 := lv_neT (a := 0) h0 (by decide)
  have a1 := lv_neT (a := 1) h1 (by decide)
  have a2 := lv_neT (a := 2) h2 (by decide)
  omega
