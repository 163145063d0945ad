/-! Rows for the constructors: a world of cells written out, with the tables' four kinds of arrays. -/
theorem va_AOA.moved {t : FieldType} {u U : State} (hvm : u.vm.Alike U.vm) (h : va_AOA t u) : va_AOA t U := by
  obtain ⟨comp, c, k, h1, h2, h3, h4, h5⟩ : ∃ comp c k, u.vm.findClass (FieldType.array t).toString = some comp ∧ (u.vm.classes.findIdx? fun (x : Class) => match x.kind with | .array component _ => component == comp | _ => false) = some c ∧ u.vm.classes[c]? = some k ∧ k.kind = .array comp (.array t) ∧ u.vm.findClass ("[" ++ (FieldType.array t).toString) = some c := by
    have h' := h
    unfold va_AOA Cond.before Cond.holds at h'
    simp only [Cond.value, beq_iff_eq] at h'
    cases hc : u.vm.findClass (FieldType.array t).toString with
    | none => rw [hc] at h'; simp at h'
    | some comp =>
      rw [hc, Option.bind_some, Option.bind_eq_some_iff] at h'
      obtain ⟨c, hi, hb⟩ := h'
      obtain ⟨k, hk, hb⟩ := Option.map_eq_some_iff.mp hb
      obtain ⟨hlt, hp, -⟩ := Array.findIdx?_eq_some_iff_getElem.mp hi
      have hkk : u.vm.classes[c] = k := (Array.getElem?_eq_some_iff.mp hk).2
      rw [hkk] at hp
      cases hkind : k.kind with
      | array component ty =>
        rw [hkind] at hb hp
        simp at hb hp
        exact ⟨comp, c, k, rfl, hi, hk, by rw [hkind, hp, hb.1], hb.2⟩
      | _ => rw [hkind] at hb; simp at hb
  obtain ⟨k', hk', he⟩ := hvm.2.2 _ _ h3
  have hi : (U.vm.classes.findIdx? fun (x : Class) => match x.kind with | .array component _ => component == comp | _ => false) = some c := by
    have e1 := va_idx_bare U.vm comp
    have e2 := va_idx_bare u.vm comp
    have e3 : U.vm.bare = u.vm.bare := by first | exact hvm.bare_eq | exact hvm.bare_eq.symm
    rw [e3] at e1
    exact e1.symm.trans (e2.trans h2)
  have hkind : k'.kind = .array comp (.array t) := by rw [he]; exact h4
  have f1 : U.vm.findClass (FieldType.array t).toString = some comp := by rw [hvm.findClass]; exact h1
  have f2 : U.vm.findClass ("[" ++ (FieldType.array t).toString) = some c := by rw [hvm.findClass]; exact h5
  unfold va_AOA Cond.before Cond.holds
  simp only [Cond.value]
  rw [f1, Option.bind_some]
  refine (congrArg (fun o : Option Nat => (o.bind (fun c => (U.vm.classes[c]?).map fun (k : Class) => match k.kind with | .array _ ty => decide (ty = FieldType.array t) && decide (U.vm.findClass ("[" ++ (FieldType.array t).toString) = some c) | _ => false) == some true)) hi).trans ?_
  simp [hk', hkind, f2]
def AOs (U : State) : Prop := va_AO "NibbleTrie$Trie" U ∧ va_AOA .long U
theorem AOs.moved {u U : State} (hvm : u.vm.Alike U.vm) (h : AOs u) : AOs U := ⟨va_AO.moved hvm h.1, va_AOA.moved hvm h.2⟩
def Xp (E : En) (ws : va_W) (sz : Nat) (U : State) : Prop := U.heap.size = sz ∧ va_P E.1 classes ws U.heap ∧ va_K E.1 classes (tys E) U ∧ va_D (fun _ => True) ws ∧ NWs U ∧ AOs U
def Xd (E : En) (ws : va_W) (A : Nat → Prop) (H0 H : Heap) (locs : List Loc) (s : State) : Prop := va_P E.1 classes ws H ∧ va_D A ws ∧ va_S A H0 H locs ∧ va_K E.1 classes (tys E) s ∧ (∀ q : Nat, H0.size ≤ q → A q) ∧ NWs s ∧ AOs s
theorem Xd.start {E : En} {ws : va_W} {s : State} {sz : Nat} (h : Xp E ws sz s) : Xd E ws (va_A ws sz) s.heap s.heap [] s := ⟨h.2.1, h.2.2.2.1.self, va_S.rf, h.2.2.1, fun q hq => Or.inr (by rw [← h.1]; exact hq), h.2.2.2.2⟩
theorem Xp.blind {E : En} {ws : va_W} {sz : Nat} {av : List Value} : FrameBlind (va_Pc av (Xp E ws sz)) := fun a U g mk q => ⟨q.1, q.2.1, q.2.2.1, va_K.moved (u := U) (U := U.calling g mk a) (Vm.Alike.refl U.vm) q.2.2.2.1, q.2.2.2.2.1, NWs.same (u := U) (U := U.calling g mk a) rfl q.2.2.2.2.2.1, AOs.moved (u := U) (U := U.calling g mk a) (Vm.Alike.refl U.vm) q.2.2.2.2.2.2⟩
/-- what a constructor needs before its call: the cells cx, a part of the world -/
theorem Xd.pre {E : En} {ws cx : va_W} {A : Nat → Prop} {H0 H : Heap} {locs : List Loc} {s : State} (hw : Xd E ws A H0 H locs s) (is : List Nat) (hn : va_nd is = true) (hs : is.map (fun i => ws[i]?) = cx.map some) (hs2 : is.filterMap (fun i => ws[i]?) = cx) {As : List Value} : PreS s H (va_Pc As (Xp E cx H.size)) As :=
  ⟨Xp.blind, fun U hU hW => ⟨rfl, by rw [hU], by rw [hU]; exact hw.1.sub is hs2, va_K.moved hW.alike hw.2.2.2.1, (hw.2.1.sub is hn hs).weaken (fun _ _ _ _ => trivial), NWs.warm hW hw.2.2.2.2.2.1, AOs.moved hW.alike hw.2.2.2.2.2.2⟩⟩
def QX (E : En) (cx : va_W) (sz : Nat) (wl : (Nat → Nat) → va_W) : Array Value → State → Outcome → State → Prop := va_Qv (fun (_ : Nat → Nat) => True) (fun u t => va_P E.1 classes (wl u) t.heap ∧ va_D (va_A cx sz) (wl u)) (va_A cx sz)
section CROW
variable {p : Program} {l : Launch} {e : Env} {R : Room} {s : State} {m : MethodId} {args : Array Value} {below : List Frame} {meth : Method} {c : Code} {H : Heap} {locs : List Loc} {cells slots : Nat} {Q : State → Prop} {cc : ByteArray} {pc nL : Nat} {ls : Array Slot} {rest st0 : List Value} {E : En} {ws : va_W} {A : Nat → Prop} {H0 : Heap} {a : Nat} {own : String} {qc : Cond} {idx : Nat}
theorem x_newi (hX : CallFix p m c cc nL s args (qc :: tG) own) (harr : Cond.arrayClass .int ∈ tG) (hw : Xd E ws A H0 H locs s) {n : Int32} (N : Nat) (hn : ¬ n < 0) (hN : n.toNatClampNeg = N) (hbytes : N * 4 ≤ 536870912) (hc : cells + 1 ≤ R.cells) (hs : slots + N ≤ R.slots) (hdg : decode cc pc = .ok (.newarray .int, 2))
    (kk : ∀ (q : Nat) (H1 : Heap), Xd E (ws ++ [(q, .inl (E.2.1, N, .inl (fun _ => 0)))]) A H0 H1 locs s → W p l e R s m args below meth c H1 locs (cells + 1) (slots + N) Q (F0 m (pc + 2) ls (.ref q :: rest))) : W p l e R s m args below meth c H locs cells slots Q (F0 m pc ls (.int n :: rest)) := by
  refine va_newa (atype := .int) (ty := .int) (a0 := (N, .inl (fun _ => 0))) hX.1 hX.2.1 (hX.2.2.2.2 _ (List.mem_cons_of_mem _ harr)) rfl hw.2.2.2.1 hw.1 hw.2.1 hw.2.2.1 hw.2.2.2.2.1 (fun cA => rfl) hn hN hbytes hc hs hdg (fun q cA H1 hK1 hP1 hD1 hS1 => ?_)
  have h1 : s.vm.findClass ("[" ++ FieldType.int.toString) = some cA := (hK1.2 4 _ rfl).2
  have h2 : s.vm.findClass ("[" ++ FieldType.int.toString) = some E.2.1 := (hw.2.2.2.1.2 0 _ rfl).2
  have ee : cA = E.2.1 := Option.some.inj (h1.symm.trans h2)
  subst ee
  exact kk q H1 ⟨hP1, hD1, hS1, hw.2.2.2⟩
theorem x_newj (hX : CallFix p m c cc nL s args (qc :: tG) own) (harr : Cond.arrayClass .long ∈ tG) (hw : Xd E ws A H0 H locs s) {n : Int32} (N : Nat) (hn : ¬ n < 0) (hN : n.toNatClampNeg = N) (hbytes : N * 8 ≤ 536870912) (hc : cells + 1 ≤ R.cells) (hs : slots + N ≤ R.slots) (hdg : decode cc pc = .ok (.newarray .long, 2))
    (kk : ∀ (q : Nat) (H1 : Heap), Xd E (ws ++ [(q, .inl (E.2.2.1, N, .inr (.inl (fun _ => 0))))]) A H0 H1 locs s → W p l e R s m args below meth c H1 locs (cells + 1) (slots + N) Q (F0 m (pc + 2) ls (.ref q :: rest))) : W p l e R s m args below meth c H locs cells slots Q (F0 m pc ls (.int n :: rest)) := by
  refine va_newa (atype := .long) (ty := .long) (a0 := (N, .inr (.inl (fun _ => 0)))) hX.1 hX.2.1 (hX.2.2.2.2 _ (List.mem_cons_of_mem _ harr)) rfl hw.2.2.2.1 hw.1 hw.2.1 hw.2.2.1 hw.2.2.2.2.1 (fun cA => rfl) hn hN hbytes hc hs hdg (fun q cA H1 hK1 hP1 hD1 hS1 => ?_)
  have h1 : s.vm.findClass ("[" ++ FieldType.long.toString) = some cA := (hK1.2 4 _ rfl).2
  have h2 : s.vm.findClass ("[" ++ FieldType.long.toString) = some E.2.2.1 := (hw.2.2.2.1.2 1 _ rfl).2
  have ee : cA = E.2.2.1 := Option.some.inj (h1.symm.trans h2)
  subst ee
  exact kk q H1 ⟨hP1, hD1, hS1, hw.2.2.2⟩
theorem x_newq (hX : CallFix p m c cc nL s args (qc :: tG) own) (hcl : Cond.classLink own idx "NibbleTrie$Trie" ∈ tG) (hw : Xd E ws A H0 H locs s) {n : Int32} (N : Nat) (hn : ¬ n < 0) (hN : n.toNatClampNeg = N) (hbytes : N * 4 ≤ 536870912) (hc : cells + 1 ≤ R.cells) (hs : slots + N ≤ R.slots) (hdg : decode cc pc = .ok (.anewarray idx, 3))
    (kk : ∀ (q : Nat) (H1 : Heap), Xd E (ws ++ [(q, .inl (E.2.2.2.1, N, .inr (.inr (.inr (.inr (fun _ => none))))))]) A H0 H1 locs s → W p l e R s m args below meth c H1 locs (cells + 1) (slots + N) Q (F0 m (pc + 3) ls (.ref q :: rest))) : W p l e R s m args below meth c H locs cells slots Q (F0 m pc ls (.int n :: rest)) := by
  refine va_newq hX.1 hX.2.1 hX.2.2.2.1 (hX.2.2.2.2 _ (List.mem_cons_of_mem _ hcl)) hw.2.2.2.2.2.2.1 hw.2.2.2.1 hw.1 hw.2.1 hw.2.2.1 hw.2.2.2.2.1 hn hN hbytes hc hs hdg (fun q cA H1 hK1 hP1 hD1 hS1 => ?_)
  obtain ⟨_, _, _, _, _, h1⟩ := (hK1.2 4 _ rfl).2
  obtain ⟨_, _, _, _, _, h2⟩ := (hw.2.2.2.1.2 2 _ rfl).2
  have ee : cA = E.2.2.2.1 := Option.some.inj (h1.symm.trans h2)
  subst ee
  exact kk q H1 ⟨hP1, hD1, hS1, hw.2.2.2⟩
theorem x_new (hX : CallFix p m c cc nL s args (qc :: tG) own) {C : String} {T : u_T} {N : Nat} (ci : Nat) (hin : ∀ w ∈ u_ws C T N, w ∈ tG) (ty : Nat → FieldType) (hty : ∀ k, k < N → parseFieldDescriptor (T k).2.2.1 = some (ty k)) (hcl : Cond.classLink own idx C ∈ tG) (hinst : Cond.instantiable C N ∈ tG) (hini : Cond.initialized C ∈ tG) (hw : Xd E ws A H0 H locs s) (hcc : classes[ci]? = some (C, T, N)) (fs : List Value) (hfs : ∀ j, j < N → defaultValue (ty j) = vp_V fs j) (hc : cells + 1 ≤ R.cells) (hs : slots + N ≤ R.slots) (hdg : decode cc pc = .ok (.new idx, 3))
    (kk : ∀ (q : Nat) (H1 : Heap), Xd E (ws ++ [(q, .inr (ci, fs))]) A H0 H1 locs s → W p l e R s m args below meth c H1 locs (cells + 1) (slots + N) Q (F0 m (pc + 3) ls (.ref q :: rest))) : W p l e R s m args below meth c H locs cells slots Q (F0 m pc ls rest) :=
  va_new hX.1 hX.2.1 hX.2.2.2.2 (fun w hw => List.mem_cons_of_mem _ (hin w hw)) ty hty hX.2.2.2.1 (hX.2.2.2.2 _ (List.mem_cons_of_mem _ hcl)) (hX.2.2.2.2 _ (List.mem_cons_of_mem _ hinst)) (hX.2.2.2.2 _ (List.mem_cons_of_mem _ hini)) hw.2.2.2.1 hw.1 hw.2.1 hw.2.2.1 hw.2.2.2.2.1 hcc hfs hc hs hdg (fun q H1 hP1 hD1 hS1 => kk q H1 ⟨hP1, hD1, hS1, hw.2.2.2⟩)
theorem x_putF (hX : CallFix p m c cc nL s args (qc :: tG) own) {C : String} {T : u_T} {N : Nat} (ci : Nat) (hin : ∀ w ∈ u_ws C T N, w ∈ tG) (ty0 : Nat → FieldType) (hty : ∀ k, k < N → parseFieldDescriptor (T k).2.2.1 = some (ty0 k)) (hnm : ∀ a, a < N → ∀ b, b < N → a ≠ b → (T a).2.1 ≠ (T b).2.1) (hm : meth.name = "<init>") (hw : Xd E ws A H0 H locs s) (q0 : Nat) {fs : List Value} (he : ws[q0]? = some (a, .inr (ci, fs))) (hcc : classes[ci]? = some (C, T, N)) (k : Nat) (hk : k < N) (hlink : Cond.fieldLink own idx (T k).1 (T k).2.1 (T k).2.2.1 ∈ tG) (hfin : (T k).2.2.2 = true) (hdecl : (T k).1 = own) {ty : FieldType} {v : Value} (hd : parseFieldDescriptor (T k).2.2.1 = some ty) (hn : narrow ty v = v) (hfit : fits ty v = true) (hl : k < fs.length) (hdg : decode cc pc = .ok (.putfield idx, 3))
    (kk : ∀ (H1 : Heap) (locs1 : List Loc), Xd E (ws.set q0 (a, .inr (ci, fs.set k v))) A H0 H1 locs1 s → W p l e R s m args below meth c H1 locs1 cells slots Q (F0 m (pc + 3) ls rest)) : W p l e R s m args below meth c H locs cells slots Q (F0 m pc ls (v :: .ref a :: rest)) :=
  va_putF hX.1 hX.2.1 hX.2.2.2.2 (fun w hw => List.mem_cons_of_mem _ (hin w hw)) ty0 hty hnm hX.2.2.2.1 hw.2.2.2.1 hw.1 hw.2.1 hw.2.2.1 q0 he hcc k hk (hX.2.2.2.2 _ (List.mem_cons_of_mem _ hlink)) (fun _ h => h) hfin hm hdecl hd hn hfit hl hdg (fun H1 locs1 hP1 hD1 hS1 => kk H1 locs1 ⟨hP1, hD1, hS1, hw.2.2.2⟩)
theorem x_put (hX : CallFix p m c cc nL s args (qc :: tG) own) {C : String} {T : u_T} {N : Nat} (ci : Nat) (hin : ∀ w ∈ u_ws C T N, w ∈ tG) (ty0 : Nat → FieldType) (hty : ∀ k, k < N → parseFieldDescriptor (T k).2.2.1 = some (ty0 k)) (hnm : ∀ a, a < N → ∀ b, b < N → a ≠ b → (T a).2.1 ≠ (T b).2.1) (hw : Xd E ws A H0 H locs s) (q0 : Nat) {fs : List Value} (he : ws[q0]? = some (a, .inr (ci, fs))) (hcc : classes[ci]? = some (C, T, N)) (k : Nat) (hk : k < N) (hlink : Cond.fieldLink own idx (T k).1 (T k).2.1 (T k).2.2.1 ∈ tG) (hfin : (T k).2.2.2 = false) {ty : FieldType} {v : Value} (hd : parseFieldDescriptor (T k).2.2.1 = some ty) (hn : narrow ty v = v) (hfit : fits ty v = true) (hl : k < fs.length) (hdg : decode cc pc = .ok (.putfield idx, 3))
    (kk : ∀ (H1 : Heap) (locs1 : List Loc), Xd E (ws.set q0 (a, .inr (ci, fs.set k v))) A H0 H1 locs1 s → W p l e R s m args below meth c H1 locs1 cells slots Q (F0 m (pc + 3) ls rest)) : W p l e R s m args below meth c H locs cells slots Q (F0 m pc ls (v :: .ref a :: rest)) :=
  va_put hX.1 hX.2.1 hX.2.2.2.2 (fun w hw => List.mem_cons_of_mem _ (hin w hw)) ty0 hty hnm hX.2.2.2.1 hw.2.2.2.1 hw.1 hw.2.1 hw.2.2.1 q0 he hcc k hk (hX.2.2.2.2 _ (List.mem_cons_of_mem _ hlink)) (fun _ h => h) hfin hd hn hfit hl hdg (fun H1 locs1 hP1 hD1 hS1 => kk H1 locs1 ⟨hP1, hD1, hS1, hw.2.2.2⟩)
theorem arr_same {cA : ClassId} {n : Nat} {f g : Nat → Option Nat} (h : ∀ j, j < n → f j = g j) : vp_cell cA (n, .inr (.inr (.inr (.inr f)))) = vp_cell cA (n, .inr (.inr (.inr (.inr g)))) := by
  rw [vp_cell_q, vp_cell_q]
  unfold arrV
  congr 1
  congr 1
  funext j
  show va_rf (f j.val) = va_rf (g j.val)
  rw [h j.val j.isLt]
/-- another way to say a cell's content -/
theorem pcell {q0 : Nat} {e1 e2 : va_E} (hw : Xd E ws A H0 H locs s) (he : ws[q0]? = some (a, e1)) (hs : va_at E.1 classes (a, e1) H → va_at E.1 classes (a, e2) H) : Xd E (ws.set q0 (a, e2)) A H0 H locs s := by
  refine ⟨fun k q hk => ?_, hw.2.1.set he, hw.2.2⟩
  by_cases h : k = q0
  · subst h
    have hl := (List.getElem?_eq_some_iff.mp he).1
    rw [List.getElem?_set_self hl] at hk
    have hk := Option.some.inj hk
    subst hk
    exact hs (hw.1 k _ he)
  · rw [List.getElem?_set_ne (Ne.symm h)] at hk
    exact hw.1 k q hk
theorem mna4 {f : Nat → va_E} {r : Nat → Nat} {z : va_E} : va_pl ([] ++ (List.range 4).map r) (vr_up f ((List.range 4).map r) z) = [(r 0, z), (r 1, z), (r 2, z), (r 3, z)] := by
  have h : ∀ i, i < 4 → vr_up f ((List.range 4).map r) z (r i) = z := fun i hi => vr_up_in (List.mem_map.mpr ⟨i, List.mem_range.mpr hi, rfl⟩)
  show [(r 0, vr_up f ((List.range 4).map r) z (r 0)), (r 1, vr_up f ((List.range 4).map r) z (r 1)), (r 2, vr_up f ((List.range 4).map r) z (r 2)), (r 3, vr_up f ((List.range 4).map r) z (r 3))] = _
  rw [h 0 (by decide), h 1 (by decide), h 2 (by decide), h 3 (by decide)]
theorem x_mna (hX : CallFix p m c cc nL s args (qc :: tG) own) (harr : Cond.arrayClass .long ∈ tG) (hcl : Cond.classLink own idx "[[J" ∈ tG) (hw : Xd E ws A H0 H locs s) (hc : cells + 5 ≤ R.cells) (hs : slots + 200 ≤ R.slots) (hdg : decode cc pc = .ok (.multianewarray idx 2, 4))
    (kk : ∀ (q : Nat) (r : Nat → Nat) (H1 : Heap), Xd E (ws ++ [(q, .inl (E.2.2.2.2, 4, .inr (.inr (.inr (.inr (fun i => if i < 4 then some (r i) else none)))))), (r 0, .inl (E.2.2.1, 49, .inr (.inl (fun _ => 0)))), (r 1, .inl (E.2.2.1, 49, .inr (.inl (fun _ => 0)))), (r 2, .inl (E.2.2.1, 49, .inr (.inl (fun _ => 0)))), (r 3, .inl (E.2.2.1, 49, .inr (.inl (fun _ => 0))))]) A H0 H1 locs s → W p l e R s m args below meth c H1 locs (cells + 5) (slots + 200) Q (F0 m (pc + 4) ls (.ref q :: rest))) : W p l e R s m args below meth c H locs cells slots Q (F0 m pc ls (.int 49 :: .int 4 :: rest)) := by
  have hP0 : va_P E.1 classes (ws ++ va_pl [] (fun _ => .inr (99, []))) H := by
    show va_P E.1 classes (ws ++ []) H
    rw [List.append_nil]; exact hw.1
  have hD0 : va_D A (ws ++ va_pl [] (fun _ => .inr (99, []))) := by
    show va_D A (ws ++ [])
    rw [List.append_nil]; exact hw.2.1
  have hcy : s.vm.findClass (FieldType.array .long).toString = some E.2.2.1 := (hw.2.2.2.1.2 1 _ rfl).2
  refine va_mna (X := ws) (L := []) (f := fun _ => .inr (99, [])) (ty := .long) (cy := E.2.2.1) (z := (49, .inr (.inl (fun _ => 0)))) (N' := 4) (K' := 49) hX.1 hX.2.1 hX.2.2.2.1 (hX.2.2.2.2 _ (List.mem_cons_of_mem _ hcl)) hw.2.2.2.2.2.2.2 (hX.2.2.2.2 _ (List.mem_cons_of_mem _ harr)) hcy hw.2.2.2.1 hP0 hD0 hw.2.2.1 hw.2.2.2.2.1 (by decide) (by decide) rfl rfl (by decide) (by decide) (by decide) rfl rfl hc hs (fun c => ?_) hdg (fun q r cA H1 _ _ hK1 hP1 hD1 hS1 => ?_)
  · show ({ cls := c, slots := Array.replicate 49 (defaultValue .long), vm := .none } : Cell) = _
    rw [arrV_new]
    rfl
  · have h1 : s.vm.findClass ("[" ++ (FieldType.array .long).toString) = some cA := (hK1.2 4 _ rfl).2
    have h2 : s.vm.findClass ("[" ++ (FieldType.array .long).toString) = some E.2.2.2.2 := (hw.2.2.2.1.2 3 _ rfl).2
    have ee : cA = E.2.2.2.2 := Option.some.inj (h1.symm.trans h2)
    subst ee
    rw [mna4, List.append_assoc] at hP1 hD1
    exact kk q r H1 ⟨hP1, hD1, hS1, hw.2.2.2⟩
end CROW
