/-! The start: the tables, the two objects, the pool; what is left is pure. -/
theorem t_10 : Cond.instantiable "NibbleTrie" 4 ∈ tG := tg_of (i := 10) (by decide +kernel) (by decide +kernel)
theorem t_407 : Cond.instantiable "NibbleTrieModel" 17 ∈ tG := tg_of (i := 407) (by decide +kernel) (by decide +kernel)
theorem t_405 : Cond.code ⟨"NibbleTrieLaw", "cell", "([II)I"⟩ method_2_code 2 (some .int) ∈ tG := tg_of (i := 405) (by decide +kernel) (by decide +kernel)
theorem t_404 : Cond.static ⟨"NibbleTrieLaw", "cell", "([II)I"⟩ ∈ tG := tg_of (i := 404) (by decide +kernel) (by decide +kernel)
theorem t_0 : Cond.initialized "NibbleTrieLaw" ∈ tG := tg_of (i := 0) (by decide +kernel) (by decide +kernel)
theorem t_403 : Cond.methodLink "NibbleTrieLaw" 9 ⟨"NibbleTrieLaw", "cell", "([II)I"⟩ ∈ tG := tg_of (i := 403) (by decide +kernel) (by decide +kernel)
abbrev Db : Type := Nat × Nat × (Nat → Int32) × (Nat → Int64) × (Nat → Nat)
abbrev De : Type := Nat × Db
def encd (E : En) (d : Db) : va_E := match d.1 with
  | 1 => .inl (E.2.1, d.2.1, .inl d.2.2.1)
  | 2 => .inl (E.2.2.1, d.2.1, .inr (.inl d.2.2.2.1))
  | 3 => .inl (E.2.2.2.1, d.2.1, .inr (.inr (.inr (.inr (fun j => some (d.2.2.2.2 j))))))
  | 4 => .inl (E.2.2.2.2, d.2.1, .inr (.inr (.inr (.inr (fun j => some (d.2.2.2.2 j))))))
  | 5 => .inr (3, [.ref (d.2.2.2.2 0), .ref (d.2.2.2.2 1), .int (d.2.2.1 2), .ref (d.2.2.2.2 3)])
  | 6 => .inr (2, [.ref (d.2.2.2.2 0), .int (d.2.2.1 1), .int (d.2.2.1 2), .int (d.2.2.1 3), .ref (d.2.2.2.2 4), .ref (d.2.2.2.2 5), .ref (d.2.2.2.2 6), .ref (d.2.2.2.2 7), .ref (d.2.2.2.2 8), .ref (d.2.2.2.2 9)])
  | 7 => .inr (0, [.ref (d.2.2.2.2 0), .ref (d.2.2.2.2 1), .int (d.2.2.1 2)])
  | 8 => .inr (1, [.ref (d.2.2.2.2 0), .int (d.2.2.1 1), .int (d.2.2.1 2), .int (d.2.2.1 3), .int (d.2.2.1 4), .int (d.2.2.1 5), .int (d.2.2.1 6), .long (d.2.2.2.1 7)])
  | 9 => .inr (4, [.ref (d.2.2.2.2 0), .ref (d.2.2.2.2 1), .ref (d.2.2.2.2 2), .int (d.2.2.1 3), .int (d.2.2.1 4), .ref (d.2.2.2.2 5), .ref (d.2.2.2.2 6), .ref (d.2.2.2.2 7), .ref (d.2.2.2.2 8), .int (d.2.2.1 9), .ref (d.2.2.2.2 10), .int (d.2.2.1 11), .int (d.2.2.1 12), .long (d.2.2.2.1 13), .long (d.2.2.2.1 14), .int (d.2.2.1 15), .int (d.2.2.1 16)])
  | _ => .inr (99, [])
def look (ds : List De) (a : Nat) : Db := match ds.find? (fun d => d.1 == a) with
  | some d => d.2
  | none => (0, 0, fun _ => 0, fun _ => 0, fun _ => 0)
def KD (ds : List De) (a : Nat) : Nat := (look ds a).1
def GD (ds : List De) (a : Nat) : Nat := (look ds a).2.1
def MD (ds : List De) : Mm := (fun a => (look ds a).2.2.1, fun a => (look ds a).2.2.2.1, fun a => (look ds a).2.2.2.2)
theorem enc_look {E : En} {ds : List De} {a : Nat} : enc E (KD ds) (GD ds) (MD ds) a = encd E (look ds a) := by
  unfold enc encd KD GD MD
  rfl
theorem look_in {ds : List De} (hn : ∀ (i j : Nat) (p q : De), ds[i]? = some p → ds[j]? = some q → p.1 = q.1 → i = j) {d : De} (h : d ∈ ds) : look ds d.1 = d.2 := by
  unfold look
  cases hf : ds.find? (fun z => z.1 == d.1) with
  | none => exact absurd (List.find?_eq_none.mp hf d h) (by simp)
  | some z =>
    have h1 : z.1 = d.1 := by simpa using List.find?_some hf
    have h2 : z ∈ ds := List.mem_of_find?_eq_some hf
    obtain ⟨i, hi⟩ := List.getElem?_of_mem h2
    obtain ⟨j, hj⟩ := List.getElem?_of_mem h
    have := hn i j z d hi hj h1
    subst this
    have := Option.some.inj (hi.symm.trans hj)
    rw [this]
def dsTR (a : Nat) (u : Nat → Nat) : List De := [(a, 6, 0, (fun _ => 0), (fun _ => 0), (fun j => [u 0, 0, 0, 0, u 3, u 4, u 5, u 6, u 7, u 8].getD j 0)), (u 0, 7, 0, (fun _ => 0), (fun _ => 0), (fun j => [u 1, u 2].getD j 0)), (u 1, 1, 16, (fun _ => 0), (fun _ => 0), (fun _ => 0)), (u 2, 1, 16, (fun _ => 0), (fun _ => 0), (fun _ => 0)), (u 3, 1, 15, (fun _ => 0), (fun _ => 0), (fun _ => 0)), (u 4, 1, 15, (fun _ => 0), (fun _ => 0), (fun _ => 0)), (u 5, 1, 15, (fun _ => 0), (fun _ => 0), (fun _ => 0)), (u 6, 1, 15, (fun _ => 0), (fun _ => 0), (fun _ => 0)), (u 7, 2, 2, (fun _ => 0), (fun _ => 0), (fun _ => 0)), (u 8, 4, 4, (fun _ => 0), (fun _ => 0), (fun j => u (9 + j))), (u 9, 2, 49, (fun _ => 0), (fun _ => 0), (fun _ => 0)), (u 10, 2, 49, (fun _ => 0), (fun _ => 0), (fun _ => 0)), (u 11, 2, 49, (fun _ => 0), (fun _ => 0), (fun _ => 0)), (u 12, 2, 49, (fun _ => 0), (fun _ => 0), (fun _ => 0))]
def dsMO (a : Nat) (v : Int32) (u : Nat → Nat) : List De := [(a, 9, 0, (fun j => if j = 4 then v else 0), (fun _ => 0), (fun j => [u 0, u 1, u 2, 0, 0, u 3, u 4, u 5, u 6, 0, u 7].getD j 0)), (u 0, 1, 64, (fun _ => 0), (fun _ => 0), (fun _ => 0)), (u 1, 1, 64, (fun _ => 0), (fun _ => 0), (fun _ => 0)), (u 2, 1, 4, (fun _ => 0), (fun _ => 0), (fun _ => 0)), (u 3, 1, 64, (fun _ => 0), (fun _ => 0), (fun _ => 0)), (u 4, 2, 64, (fun _ => 0), (fun _ => 0), (fun _ => 0)), (u 5, 1, 4, (fun _ => 0), (fun _ => 0), (fun _ => 0)), (u 6, 2, 64, (fun _ => 0), (fun _ => 0), (fun _ => 0)), (u 7, 2, 256, (fun _ => 0), (fun _ => 0), (fun _ => 0))]
def dsNT (x k : Nat) (b t : Nat → Nat) (uu : Nat → Nat → Nat) : List De := [(x, 5, 0, (fun _ => 0), (fun _ => 0), (fun j => [t 0, b 0, 0, b 1].getD j 0)), (b 0, 3, k, (fun _ => 0), (fun _ => 0), (fun j => t (j + 1))), (b 1, 8, 0, (fun j => if j = 4 then 1 else 0), (fun _ => 0), (fun j => [b 2].getD j 0)), (b 2, 2, 199, (fun _ => 0), (fun _ => 0), (fun _ => 0))] ++ (List.range (k + 1)).flatMap (fun j => dsTR (t j) (uu j))
def dsA (x k : Nat) (b t : Nat → Nat) (uu : Nat → Nat → Nat) (mo : Nat) (v : Int32) (um : Nat → Nat) : List De := dsMO mo v um ++ dsNT x k b t uu
def dsW (E : En) (ds : List De) : va_W := ds.map (fun d => (d.1, encd E d.2))
theorem dsW_TR {E : En} {a : Nat} {u : Nat → Nat} : dsW E (dsTR a u) = TRl E a u := rfl
theorem dsW_MO {E : En} {a : Nat} {v : Int32} {u : Nat → Nat} : dsW E (dsMO a v u) = MOl E a v u := rfl
theorem dsW_app {E : En} {a b : List De} : dsW E (a ++ b) = dsW E a ++ dsW E b := List.map_append
theorem dsW_flt {E : En} {n : Nat} {t : Nat → Nat} {uu : Nat → Nat → Nat} : dsW E ((List.range n).flatMap (fun j => dsTR (t j) (uu j))) = flt E n t uu := by
  unfold dsW flt
  rw [List.map_flatMap]
  rfl
/-- the pool out of the cells -/
theorem pool_of {E : En} {ds : List De} {A B : Nat → Prop} {H0 H : Heap} {locs : List Loc} {s : State} (hw : Xd E (dsW E ds) A H0 H locs s) : va_pl (ds.map Prod.fst) (enc E (KD ds) (GD ds) (MD ds)) = dsW E ds ∧ (∀ (i j : Nat) (p q : De), ds[i]? = some p → ds[j]? = some q → p.1 = q.1 → i = j) := by
  have hn : ∀ (i j : Nat) (p q : De), ds[i]? = some p → ds[j]? = some q → p.1 = q.1 → i = j := fun i j p q hi hj hpq =>
    hw.2.1.1 i j (p.1, encd E p.2) (q.1, encd E q.2) (by unfold dsW; rw [List.getElem?_map, hi]; rfl) (by unfold dsW; rw [List.getElem?_map, hj]; rfl) hpq
  refine ⟨?_, hn⟩
  unfold va_pl dsW
  rw [List.map_map]
  apply List.map_congr_left
  intro d hd
  show (d.1, enc E (KD ds) (GD ds) (MD ds) d.1) = _
  rw [enc_look, look_in hn hd]
theorem en_ex {s : State} {args : Array Value} (hts : ∀ w ∈ tG, w.before args s = true) (hA : AOs s) : ∃ E : En, va_K E.1 classes (tys E) s := by
  obtain ⟨cPM, iPM, hPM⟩ := u_known (n := 3) hts in_PM (hts _ t_24)
  obtain ⟨cPF, iPF, hPF⟩ := u_known (n := 8) hts in_PF (hts _ t_84)
  obtain ⟨cTR, iTR, hTR⟩ := u_known (n := 10) hts in_TR (hts _ t_18)
  obtain ⟨cNT, iNT, hNT⟩ := u_known (n := 4) hts in_NT (hts _ t_10)
  obtain ⟨cMO, iMO, hMO⟩ := u_known (n := 17) hts in_MO (hts _ t_407)
  obtain ⟨cI, kI, oI, a1, a2, a3⟩ := Cond.arrayClass_spec (hts _ t_43)
  obtain ⟨cJ, kJ, oJ, b1, b2, b3⟩ := Cond.arrayClass_spec (hts _ t_82)
  obtain ⟨oT, cT, kT, t1, t2, t3, t4, t5⟩ := Cond.arrayOver_spec hA.1
  obtain ⟨oG, cG, kG, g1, g2, g3, g4⟩ := Cond.arrayOver_specA hA.2
  refine ⟨((fun n => [cPM, cPF, cTR, cNT, cMO].getD n 0, fun n => [iPM, iPF, iTR, iNT, iMO].getD n (fun _ => 0)), cI, cJ, cT, cG), fun n q hn => ?_, fun n q hn => ?_⟩
  · match n, hn with
    | 0, hn => cases hn; exact hPM
    | 1, hn => cases hn; exact hPF
    | 2, hn => cases hn; exact hTR
    | 3, hn => cases hn; exact hNT
    | 4, hn => cases hn; exact hMO
    | n + 5, hn => cases hn
  · match n, hn with
    | 0, hn => cases hn; exact ⟨fun n z => ⟨fun q hq => (by cases hq), kI, a2, oI, a3⟩, a1⟩
    | 1, hn => cases hn; exact ⟨fun n z => ⟨fun q hq => (by cases hq), kJ, b2, oJ, b3⟩, b1⟩
    | 2, hn => cases hn; exact ⟨fun n z => ⟨fun q hq => (by cases hq), kT, t3, oT, t4⟩, kT, oT, t3, t4, t1, t5⟩
    | 3, hn => cases hn; exact ⟨fun n z => ⟨fun q hq => (by cases hq), kG, g2, oG, g3⟩, g4⟩
    | n + 4, hn => cases hn
abbrev y_LW_cell : MethodName := ⟨"NibbleTrieLaw", "cell", "([II)I"⟩
abbrev b_LW_cell : ByteArray := method_2_code
abbrev w_LW_cell : List Cond := Cond.code y_LW_cell b_LW_cell 2 (some .int) :: tG
def rm_LW_cell : Room := { frames := 0, cells := 0, slots := 0, locals := 0 }
theorem cb_LW_cell {R : Room} {s : State} {args : Array Value} {own : String} {idx : Nat} {q : Cond} (hts : ∀ w ∈ q :: tG, w.before args s = true) (hl : Cond.methodLink own idx y_LW_cell ∈ tG) (hR : rm_LW_cell.frames + 1 ≤ R.frames ∧ 8 + (2 + 11) + rm_LW_cell.locals ≤ R.locals) : CallB R s args own idx y_LW_cell b_LW_cell 2 (some .int) w_LW_cell rm_LW_cell 0 0 2 ∧ (Cond.static y_LW_cell).before args s = true := ⟨callB_of 2 hts (gx t_405) rfl rfl rfl (hts _ (List.mem_cons_of_mem _ t_0)) (hts _ (List.mem_cons_of_mem _ hl)) (by decide +kernel) hR, hts _ (List.mem_cons_of_mem _ t_404)⟩
theorem d_LW_cell_0 : decode b_LW_cell 0 = .ok (.iload_n 1, 1) := by decide +kernel
theorem d_LW_cell_1 : decode b_LW_cell 1 = .ok (.aload_n 0, 1) := by decide +kernel
theorem d_LW_cell_2 : decode b_LW_cell 2 = .ok (.arraylength, 1) := by decide +kernel
theorem d_LW_cell_3 : decode b_LW_cell 3 = .ok (.if_icmp .ge 9, 3) := by decide +kernel
theorem d_LW_cell_6 : decode b_LW_cell 6 = .ok (.aload_n 0, 1) := by decide +kernel
theorem d_LW_cell_7 : decode b_LW_cell 7 = .ok (.iload_n 1, 1) := by decide +kernel
theorem d_LW_cell_8 : decode b_LW_cell 8 = .ok (.iaload, 1) := by decide +kernel
theorem d_LW_cell_9 : decode b_LW_cell 9 = .ok (.goto 4, 3) := by decide +kernel
theorem d_LW_cell_12 : decode b_LW_cell 12 = .ok (.iconst 0, 1) := by decide +kernel
theorem d_LW_cell_13 : decode b_LW_cell 13 = .ok (.ireturn, 1) := by decide +kernel
set_option maxHeartbeats 4000000 in
set_option maxRecDepth 100000 in
theorem m_LW_cell (l : Launch) (b Ls : Nat) (xs : Nat → Int32) : Met l y_LW_cell w_LW_cell rm_LW_cell (va_Pc [.ref b, .int 0] (fun U => va_X b Ls xs U U.heap ∧ b < U.heap.size)) (PI (if Int32.ofNat Ls ≤ 0 then 0 else xs 0)) 0 0 (fun _ => False) := by
  refine Met.ofW (cc := b_LW_cell) (maxL := 2) (ret := (some .int)) (by decide) rfl ?_
  intro p e s m av below meth c s₁ B hml hv
  obtain ⟨rfl, hXs, hbl⟩ := hv
  have hX : CallFix p m c b_LW_cell 2 s _ w_LW_cell "NibbleTrieLaw" := ⟨B.exec, B.bytes, hml, findClass_of_methodNamed B.named, atoms_spec (ws := w_LW_cell) B.pre⟩
  have hx := hX.1
  have hb := hX.2.1
  have hr := B.returns
  have hlk := B.notSynchronized
  have hl := lv_entry ([.ref b, .int 0]) (n := 2) (Nat.le_of_ble_eq_true rfl)
  rw [lg_entry_eq]
  generalize (lg_sl ([.ref b, .int 0]) ++ List.replicate (2 - (lg_sl ([.ref b, .int 0])).length) Slot.unset).toArray = ls at hl ⊢
  have hl : lv_has ls 2 [(0, .ref b), (1, .int 0)] := hl
  have hS : va_S (fun _ => False) s.heap s.heap [] := va_S.rf
  refine lv_iload_n hx hb d_LW_cell_0 rfl (lv_at hl 1 rfl) ?_
  refine lv_aload_n hx hb d_LW_cell_1 rfl (lv_at hl 0 rfl) ?_
  refine va_slen hx hb hXs hbl (fun h => h) hS d_LW_cell_2 ?_
  refine lv_icmp_ge (tgt := 12) hx hb d_LW_cell_3 (by decide) (fun hc => ?_) (fun hc => ?_)
  · rw [if_pos hc]
    refine lv_iconst (v := 0) hx hb d_LW_cell_12 (by decide) ?_
    exact p_iret hX hr hlk d_LW_cell_13
  · rw [if_neg hc]
    refine lv_aload_n hx hb d_LW_cell_6 rfl (lv_at hl 0 rfl) ?_
    refine lv_iload_n hx hb d_LW_cell_7 rfl (lv_at hl 1 rfl) ?_
    refine va_sld (i := 0) hx hb hXs hbl (fun h => h) hS (fun h => h.elim (by decide) (fun h => hc ?_)) d_LW_cell_8 ?_
    · have h0 : Ls ≤ 0 := h
      rw [Nat.le_zero.mp h0]
      decide
    · refine lv_goto (tgt := 13) hx hb d_LW_cell_9 (by decide) ?_
      exact p_iret hX hr hlk d_LW_cell_13
theorem preX {b Ls : Nat} {xs : Nat → Int32} {s : State} {H : Heap} {A : Nat → Prop} {locs : List Loc} (hX : va_X b Ls xs s s.heap) (hbl : b < s.heap.size) (hA : ¬ A b) (hS : va_S A s.heap H locs) : PreS s H (va_Pc [.ref b, .int 0] (fun U => va_X b Ls xs U U.heap ∧ b < U.heap.size)) [.ref b, .int 0] :=
  ⟨fun a U g mk q => ⟨q.1, va_X.moved (u := U) (U := U.calling g mk a) (Vm.Alike.refl U.vm) q.2.1, q.2.2⟩, fun U hU hW => ⟨rfl, va_X.moved hW.alike ((hX.kept (hS.2.1 b hbl hA)).kept (by rw [hU])), by rw [hU]; exact Nat.lt_of_lt_of_le hbl hS.1⟩⟩
theorem kp_iL {p : Program} {l : Launch} {e : Env} {R : Room} {s : State} {m : MethodId} {args : Array Value} {below : List Frame} {meth : Method} {c : Code} {H : Heap} {locs : List Loc} {cells slots pc : Nat} {Q : State → Prop} {ls : Array Slot} {rest st0 : List Value} {av : Array Value} {v : Int32} (hr : va_Run p l e R s m args below meth c H locs cells slots 0 0 (F0 m pc ls st0) rest (PI v av) (fun _ => False))
    (kk : W p l e R s m args below meth c H locs cells slots Q (F0 m (pc + 3) ls (.int v :: rest))) : W p l e R s m args below meth c H locs cells slots Q (F0 m pc ls st0) := by
  intro T hT X
  obtain ⟨v, st₀, t, T', L, h0, X', hL, e1, -, ⟨hv, hh⟩, st⟩ := hr T hT X
  cases hv
  obtain ⟨t2, a1, b1⟩ := kk T' (by rw [e1, hh, h0]) (Stand.forget X' (fun q h => (hL q h).elim))
  exact ⟨t2, st t2 a1, b1⟩
