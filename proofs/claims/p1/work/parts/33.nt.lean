/-! The constructor of the class: a working trie, a proof, an array of one to three tries. -/
theorem t_119 : Cond.methodLink "NibbleTrie" 33 ⟨"java/lang/Math", "max", "(II)I"⟩ ∈ tG := tg_of (i := 119) (by decide +kernel) (by decide +kernel)
theorem t_13 : Cond.code ⟨"NibbleTrie", "<init>", "(I)V"⟩ prog_1_method_1_code 4 none ∈ tG := tg_of (i := 13) (by decide +kernel) (by decide +kernel)
theorem t_12 : Cond.instanceMethod ⟨"NibbleTrie", "<init>", "(I)V"⟩ ∈ tG := tg_of (i := 12) (by decide +kernel) (by decide +kernel)
theorem t_17 : Cond.classLink "NibbleTrie" 9 "NibbleTrie$Trie" ∈ tG := tg_of (i := 17) (by decide +kernel) (by decide +kernel)
theorem t_83 : Cond.classLink "NibbleTrie" 20 "NibbleTrie$Proof" ∈ tG := tg_of (i := 83) (by decide +kernel) (by decide +kernel)
theorem t_18 : Cond.instantiable "NibbleTrie$Trie" 10 ∈ tG := tg_of (i := 18) (by decide +kernel) (by decide +kernel)
theorem t_84 : Cond.instantiable "NibbleTrie$Proof" 8 ∈ tG := tg_of (i := 84) (by decide +kernel) (by decide +kernel)
theorem t_14 : Cond.methodLink "NibbleTrie" 3 ⟨"java/lang/Object", "<init>", "()V"⟩ ∈ tG := tg_of (i := 14) (by decide +kernel) (by decide +kernel)
abbrev y_NT_init : MethodName := ⟨"NibbleTrie", "<init>", "(I)V"⟩
abbrev b_NT_init : ByteArray := prog_1_method_1_code
abbrev w_NT_init : List Cond := Cond.code y_NT_init b_NT_init 4 none :: tG
def rm_NT_init : Room := { frames := 3, cells := 59, slots := 1438, locals := 100 }
theorem cb_NT_init {R : Room} {s : State} {args : Array Value} {own : String} {idx : Nat} {q : Cond} (hts : ∀ w ∈ q :: tG, w.before args s = true) (hl : Cond.methodLink own idx y_NT_init ∈ tG) (hR : rm_NT_init.frames + 1 ≤ R.frames ∧ 8 + (4 + 11) + rm_NT_init.locals ≤ R.locals) : CallB R s args own idx y_NT_init b_NT_init 4 none w_NT_init rm_NT_init 59 1438 1 ∧ y_NT_init.name = "<init>" ∧ (Cond.instanceMethod y_NT_init).before args s = true := ⟨callB_of 1 hts (gx t_13) rfl rfl rfl (hts _ (List.mem_cons_of_mem _ t_1)) (hts _ (List.mem_cons_of_mem _ hl)) (by decide +kernel) hR, rfl, hts _ (List.mem_cons_of_mem _ t_12)⟩
def flt (E : En) (n : Nat) (t : Nat → Nat) (uu : Nat → Nat → Nat) : va_W := (List.range n).flatMap (fun j => TRl E (t j) (uu j))
theorem flt_s {E : En} {n q : Nat} {t : Nat → Nat} {uu : Nat → Nat → Nat} {u : Nat → Nat} : flt E (n + 1) (va_up t n q) (va_up uu n u) = flt E n t uu ++ TRl E q u := by
  unfold flt
  rw [List.range_succ, List.flatMap_append]
  congr 1
  · have h : ∀ j, j ∈ List.range n → TRl E (va_up t n q j) (va_up uu n u j) = TRl E (t j) (uu j) := fun j hj => by
      have hne : j ≠ n := Nat.ne_of_lt (List.mem_range.mp hj)
      rw [va_up_ne _ _ hne, va_up_ne _ _ hne]
    rw [List.flatMap_def, List.flatMap_def, List.map_congr_left h]
  · rw [List.flatMap_cons, List.flatMap_nil, List.append_nil, va_up_self, va_up_self]
/-- the object x, its array of k tries of which i stand there -/
abbrev NTh (E : En) (x k i : Nat) (b t : Nat → Nat) : va_W := [(x, .inr (3, [.ref (t 0), .ref (b 0), .int 0, .ref (b 1)])), (b 0, .inl (E.2.2.2.1, k, .inr (.inr (.inr (.inr (fun j => if j < i then some (t (j + 1)) else none))))))]
abbrev NTr (E : En) (i : Nat) (b t : Nat → Nat) (uu : Nat → Nat → Nat) : va_W := [(b 1, .inr (1, [.ref (b 2), .int 0, .int 0, .int 0, .int 1, .int 0, .int 0, .long 0])), (b 2, .inl (E.2.2.1, 199, .inr (.inl (fun _ => 0))))] ++ flt E (i + 1) t uu
abbrev NTl (E : En) (x k : Nat) (b t : Nat → Nat) (uu : Nat → Nat → Nat) : va_W := NTh E x k k b t ++ NTr E k b t uu
theorem Xd.swap {E : En} {a b c : va_W} {A : Nat → Prop} {H0 H : Heap} {locs : List Loc} {s : State} (h : Xd E ((a ++ b) ++ c) A H0 H locs s) : Xd E ((a ++ c) ++ b) A H0 H locs s := ⟨h.1.swap, h.2.1.swap, h.2.2⟩
theorem Xd.to {E : En} {a b : va_W} {A : Nat → Prop} {H0 H : Heap} {locs : List Loc} {s : State} (h : Xd E a A H0 H locs s) (e : a = b) : Xd E b A H0 H locs s := e ▸ h
theorem x_callQ {p : Program} {l : Launch} {e : Env} {R : Room} {s : State} {m : MethodId} {args : Array Value} {below : List Frame} {meth : Method} {c : Code} {H : Heap} {locs : List Loc} {cells slots mc ms pc : Nat} {Q : State → Prop} {ls : Array Slot} {rest st0 : List Value} {E : En} {ws cx wr pl : va_W} {wl : (Nat → Nat) → va_W} {A : Nat → Prop} {av : Array Value} (hr : va_Run p l e R s m args below meth c H locs cells slots mc ms (F0 m pc ls st0) rest (QX E cx H.size wl av) (va_A cx H.size)) (hw : Xd E (ws ++ pl) A s.heap H locs s) (isC isR : List Nat) (hC : isC.map (fun i => ws[i]?) = cx.map some) (hC2 : isC.map (fun i => (ws ++ pl)[i]?) = cx.map some) (hR : isR.map (fun i => ws[i]?) = wr.map some) (hn : va_nd isR = true) (hdis : ∀ i ∈ isR, i ∉ isC)
    (kk : ∀ (u : Nat → Nat) (H1 : Heap) (locs1 : List Loc), Xd E ((wr ++ wl u) ++ pl) A s.heap H1 locs1 s → W p l e R s m args below meth c H1 locs1 (cells + mc) (slots + ms) Q (F0 m (pc + 3) ls rest)) : W p l e R s m args below meth c H locs cells slots Q (F0 m pc ls st0) := by
  have hF := va_free (wc := cx) hw.2.1 hw.2.2.1 hw.2.2.2.2.1 isC hC2
  refine va_callv (A1 := va_A cx H.size) hr hw.2.2.1 (fun q _ h => hF q h) hF (fun u t H1 locs1 ht _ _ hB _ hk1 hS => ?_)
  obtain ⟨hP1, hD1⟩ := hB
  rw [ht] at hP1
  obtain ⟨hP, hD⟩ := va_joinQ (X := ws) (pl := pl) (wr := wr) (w1 := wl u) hw.1 hw.2.1 isC isR hC hR hn hdis hk1 hF hP1 hD1
  exact kk u H1 locs1 ⟨hP, hD, hS, hw.2.2.2⟩
theorem x_ast {p : Program} {l : Launch} {e : Env} {R : Room} {s : State} {m : MethodId} {args : Array Value} {below : List Frame} {meth : Method} {c : Code} {H : Heap} {locs : List Loc} {cells slots pc nL : Nat} {Q : State → Prop} {cc : ByteArray} {ls : Array Slot} {rest : List Value} {E : En} {ws : va_W} {A : Nat → Prop} {H0 : Heap} {a x n : Nat} {own : String} {qc : Cond} {vs : List Value} {f : Nat → Option Nat} (hX : CallFix p m c cc nL s args (qc :: tG) own) (hw : Xd E ws A H0 H locs s) (q0 qk : Nat) (ha : ws[q0]? = some (a, .inl (E.2.2.2.1, n, .inr (.inr (.inr (.inr f)))))) (hv : ws[qk]? = some (x, .inr (2, vs))) {i : Int32} (hin : vp_in i n) (hdg : decode cc pc = .ok (.aastore, 1)) (kk : ∀ (H1 : Heap) (locs1 : List Loc), Xd E (ws.set q0 (a, .inl (E.2.2.2.1, n, .inr (.inr (.inr (.inr (va_up f i.toNatClampNeg (some x)))))))) A H0 H1 locs1 s → W p l e R s m args below meth c H1 locs1 cells slots Q (F0 m (pc + 1) ls rest)) : W p l e R s m args below meth c H locs cells slots Q (F0 m pc ls (.ref x :: .int i :: .ref a :: rest)) :=
  va_astq (r := (R_TR, F_TR, 10)) hX.1 hX.2.1 hw.2.2.2.1 hw.1 hw.2.1 hw.2.2.1 q0 2 qk 2 ha rfl hv rfl hin hdg (fun H1 locs1 hP hD hS => kk H1 locs1 ⟨hP, hD, hS, hw.2.2.2⟩)
def QN (E : En) (cx : va_W) (sz x k : Nat) : Array Value → State → Outcome → State → Prop := va_Qv (fun (_ : (Nat → Nat) × (Nat → Nat) × (Nat → Nat → Nat)) => True) (fun u t => va_P E.1 classes (NTl E x k u.1 u.2.1 u.2.2) t.heap ∧ va_D (va_A cx sz) (NTl E x k u.1 u.2.1 u.2.2)) (va_A cx sz)
theorem d_NT_init_0 : decode b_NT_init 0 = .ok (.aload_n 0, 1) := by decide +kernel
theorem d_NT_init_1 : decode b_NT_init 1 = .ok (.invokespecial 3, 3) := by decide +kernel
theorem d_NT_init_4 : decode b_NT_init 4 = .ok (.aload_n 0, 1) := by decide +kernel
theorem d_NT_init_5 : decode b_NT_init 5 = .ok (.new 9, 3) := by decide +kernel
theorem d_NT_init_8 : decode b_NT_init 8 = .ok (.dup, 1) := by decide +kernel
theorem d_NT_init_9 : decode b_NT_init 9 = .ok (.invokespecial 11, 3) := by decide +kernel
theorem d_NT_init_12 : decode b_NT_init 12 = .ok (.putfield 12, 3) := by decide +kernel
theorem d_NT_init_15 : decode b_NT_init 15 = .ok (.aload_n 0, 1) := by decide +kernel
theorem d_NT_init_16 : decode b_NT_init 16 = .ok (.iconst 0, 1) := by decide +kernel
theorem d_NT_init_17 : decode b_NT_init 17 = .ok (.putfield 16, 3) := by decide +kernel
theorem d_NT_init_20 : decode b_NT_init 20 = .ok (.aload_n 0, 1) := by decide +kernel
theorem d_NT_init_21 : decode b_NT_init 21 = .ok (.new 20, 3) := by decide +kernel
theorem d_NT_init_24 : decode b_NT_init 24 = .ok (.dup, 1) := by decide +kernel
theorem d_NT_init_25 : decode b_NT_init 25 = .ok (.invokespecial 22, 3) := by decide +kernel
theorem d_NT_init_28 : decode b_NT_init 28 = .ok (.putfield 23, 3) := by decide +kernel
theorem d_NT_init_31 : decode b_NT_init 31 = .ok (.iconst 1, 1) := by decide +kernel
theorem d_NT_init_32 : decode b_NT_init 32 = .ok (.iconst 3, 1) := by decide +kernel
theorem d_NT_init_33 : decode b_NT_init 33 = .ok (.iload_n 1, 1) := by decide +kernel
theorem d_NT_init_34 : decode b_NT_init 34 = .ok (.invokestatic 27, 3) := by decide +kernel
theorem d_NT_init_37 : decode b_NT_init 37 = .ok (.invokestatic 33, 3) := by decide +kernel
theorem d_NT_init_40 : decode b_NT_init 40 = .ok (.istore_n 2, 1) := by decide +kernel
theorem d_NT_init_41 : decode b_NT_init 41 = .ok (.aload_n 0, 1) := by decide +kernel
theorem d_NT_init_42 : decode b_NT_init 42 = .ok (.iload_n 2, 1) := by decide +kernel
theorem d_NT_init_43 : decode b_NT_init 43 = .ok (.anewarray 9, 3) := by decide +kernel
theorem d_NT_init_46 : decode b_NT_init 46 = .ok (.putfield 36, 3) := by decide +kernel
theorem d_NT_init_49 : decode b_NT_init 49 = .ok (.iconst 0, 1) := by decide +kernel
theorem d_NT_init_50 : decode b_NT_init 50 = .ok (.istore_n 3, 1) := by decide +kernel
theorem d_NT_init_51 : decode b_NT_init 51 = .ok (.iload_n 3, 1) := by decide +kernel
theorem d_NT_init_52 : decode b_NT_init 52 = .ok (.iload_n 2, 1) := by decide +kernel
theorem d_NT_init_53 : decode b_NT_init 53 = .ok (.if_icmp .ge 22, 3) := by decide +kernel
theorem d_NT_init_56 : decode b_NT_init 56 = .ok (.aload_n 0, 1) := by decide +kernel
theorem d_NT_init_57 : decode b_NT_init 57 = .ok (.getfield 36, 3) := by decide +kernel
theorem d_NT_init_60 : decode b_NT_init 60 = .ok (.iload_n 3, 1) := by decide +kernel
theorem d_NT_init_61 : decode b_NT_init 61 = .ok (.new 9, 3) := by decide +kernel
theorem d_NT_init_64 : decode b_NT_init 64 = .ok (.dup, 1) := by decide +kernel
theorem d_NT_init_65 : decode b_NT_init 65 = .ok (.invokespecial 11, 3) := by decide +kernel
theorem d_NT_init_68 : decode b_NT_init 68 = .ok (.aastore, 1) := by decide +kernel
theorem d_NT_init_69 : decode b_NT_init 69 = .ok (.iinc 3 1, 3) := by decide +kernel
theorem d_NT_init_72 : decode b_NT_init 72 = .ok (.goto (-21), 3) := by decide +kernel
theorem d_NT_init_75 : decode b_NT_init 75 = .ok (.return_, 1) := by decide +kernel
set_option maxHeartbeats 4000000 in
set_option maxRecDepth 100000 in
theorem w_NT_init_51 {p : Program} {l : Launch} {e : Env} {s : State} {m : MethodId} {args : Array Value} {below : List Frame} {meth : Method} {c : Code} {E : En} (hX : CallFix p m c b_NT_init 4 s args w_NT_init "NibbleTrie") (hr : meth.sig.returnType = none) (hlk : meth.locks = false) {x k : Nat} (hk : k ≤ 3) {b : Nat → Nat} : ∀ (n i : Nat) (t : Nat → Nat) (uu : Nat → Nat → Nat) (H : Heap) (locs : List Loc) (ls : Array Slot), i + n = k → lv_has ls 4 [(0, .ref x), (2, .int (nI k)), (3, .int (nI i))] → Xd E (NTh E x k i b t ++ NTr E i b t uu) (va_A (rawNT x) s.heap.size) s.heap H locs s → W p l e rm_NT_init s m args below meth c H locs (17 + 14 * i) (517 + 307 * i) (MQ below (QN E (rawNT x) s.heap.size x k) args s 59 1438 (va_A (rawNT x) s.heap.size)) (F0 m 51 ls []) := by
  have hx := hX.1
  have hb := hX.2.1
  have hown := hX.2.2.2.1
  have hts := hX.2.2.2.2
  intro n
  induction n with
  | zero =>
    intro i t uu H locs ls hi hl hw
    have hi : i = k := by omega
    subst hi
    refine lv_iload_n hx hb d_NT_init_51 rfl (lv_at hl 2 rfl) ?_
    refine lv_iload_n hx hb d_NT_init_52 rfl (lv_at hl 1 rfl) ?_
    refine lv_icmp_ge (tgt := 75) hx hb d_NT_init_53 (by decide) (fun hc => ?_) (fun hc => absurd (Int32.le_refl (nI i)) hc)
    refine W.widen (k := 59) (n := 1438) (by omega) (by omega) ?_
    exact W.vret hx hb hr (fun t9 ht hW => ⟨⟨(b, t, uu), rfl, trivial, by rw [ht]; exact hw.1, hw.2.1⟩, hw.2.2.1.F ht⟩) hw.2.2.1.2.2 d_NT_init_75 hlk
  | succ n ih =>
    intro i t uu H locs ls hi hl hw
    refine lv_iload_n hx hb d_NT_init_51 rfl (lv_at hl 2 rfl) ?_
    refine lv_iload_n hx hb d_NT_init_52 rfl (lv_at hl 1 rfl) ?_
    refine lv_icmp_ge (tgt := 75) hx hb d_NT_init_53 (by decide) (fun hc => absurd hc (nI_ge (by omega) (by omega))) (fun hc => ?_)
    refine lv_aload_n hx hb d_NT_init_56 rfl (lv_at hl 0 rfl) ?_
    refine va_get (D := E.1) (ci := 3) (v := .ref (b 0)) (C := R_NT) (T := F_NT) (N := 4) hx hb hts (fun w hw => List.mem_cons_of_mem _ (in_NT w hw)) hown hw.2.2.2.1 hw.1 0 rfl rfl 1 (by decide) (hts _ (List.mem_cons_of_mem _ t_124)) (fun _ h => h) rfl d_NT_init_57 ?_
    refine lv_iload_n hx hb d_NT_init_60 rfl (lv_at hl 2 rfl) ?_
    refine x_new hX 2 in_TR T_TR T_TR_ok t_17 t_18 t_2 hw rfl [.null, .int 0, .int 0, .int 0, .null, .null, .null, .null, .null, .null] (by intro j hj; rcases (show j = 0 ∨ j = 1 ∨ j = 2 ∨ j = 3 ∨ j = 4 ∨ j = 5 ∨ j = 6 ∨ j = 7 ∨ j = 8 ∨ j = 9 by omega) with rfl | rfl | rfl | rfl | rfl | rfl | rfl | rfl | rfl | rfl <;> rfl) (by show 17 + 14 * i + 1 ≤ 59; omega) (by show 517 + 307 * i + 10 ≤ 1438; omega) d_NT_init_61 (fun q H hw => ?_)
    refine lv_dup hx hb d_NT_init_64 rfl ?_
    have hw := hw.swap
    refine x_callQ (ws := NTh E x k i b t ++ rawTR q) (wr := NTh E x k i b t) (va_runIN (As := []) (rest := [.ref q, .int (nI i), .ref (b 0)]) hX (m_TR_init l q) (cn_TR_init hts hw.2.2.2.2.2.1.1 ⟨(Nat.le_of_ble_eq_true rfl), (Nat.le_of_ble_eq_true rfl)⟩) (hw.pre [2] rfl rfl rfl) rfl rfl hl.1 rfl (lv_room (Nat.le_of_ble_eq_true rfl)) d_NT_init_65 ⟨by show 17 + 14 * i + 1 + 13 ≤ 59; omega, by show 517 + 307 * i + 10 + 297 ≤ 1438; omega⟩) hw [2] [0, 1] rfl rfl rfl (by decide) (by decide) (fun u H locs hw => ?_)
    refine x_ast hX hw 1 2 rfl rfl (vp_in_nI (by omega) (by omega)) d_NT_init_68 (fun H locs hw => ?_)
    rw [nI_clamp (show i < 2 ^ 31 by omega)] at hw
    have ec : va_up (fun j => if j < i then some (t (j + 1)) else none) i (some q) = (fun j => if j < i + 1 then some (va_up t (i + 1) q (j + 1)) else none) := by
      funext j
      by_cases h1 : j = i
      · subst h1
        rw [va_up_self, if_pos (by omega), va_up_self]
      · rw [va_up_ne _ _ h1]
        by_cases h2 : j < i
        · rw [if_pos h2, if_pos (by omega), va_up_ne _ _ (by omega)]
        · rw [if_neg h2, if_neg (by omega)]
    have hw : Xd E (([(x, .inr (3, [.ref (t 0), .ref (b 0), .int 0, .ref (b 1)])), (b 0, .inl (E.2.2.2.1, k, .inr (.inr (.inr (.inr (va_up (fun j => if j < i then some (t (j + 1)) else none) i (some q)))))))] ++ TRl E q u) ++ NTr E i b t uu) (va_A (rawNT x) s.heap.size) s.heap H locs s := hw
    rw [ec] at hw
    have hw := hw.swap
    have hw := hw.to (b := NTh E x k (i + 1) b (va_up t (i + 1) q) ++ NTr E (i + 1) b (va_up t (i + 1) q) (va_up uu (i + 1) u)) (by
      have h0 : va_up t (i + 1) q 0 = t 0 := va_up_ne _ _ (by omega)
      show _ = [(x, .inr (3, [.ref (va_up t (i + 1) q 0), .ref (b 0), .int 0, .ref (b 1)])), _] ++ (_ ++ flt E (i + 1 + 1) (va_up t (i + 1) q) (va_up uu (i + 1) u))
      rw [h0, flt_s]
      rfl)
    refine lv_iinc (k := 2) (v := nI (i + 1)) (lv' := [(3, .int (nI (i + 1))), (0, .ref x), (2, .int (nI k))]) hx hb d_NT_init_69 hl rfl (nI_1 i) (by decide) rfl (fun ls hl => ?_)
    refine lv_goto (tgt := 51) hx hb d_NT_init_72 (by decide) ?_
    refine W.widen (k := 17 + 14 * (i + 1)) (n := 517 + 307 * (i + 1)) (by omega) (by omega) ?_
    exact ih (i + 1) _ _ _ _ _ (by omega) (lv_sub hl [1, 2, 0] rfl) hw
set_option maxHeartbeats 4000000 in
set_option maxRecDepth 100000 in
theorem m_NT_init (l : Launch) {E : En} {sz : Nat} (x k : Nat) (v1 : Int32) (hk : imax 1 (imin 3 v1) = nI k) (hk1 : 1 ≤ k) (hk3 : k ≤ 3) : Met l y_NT_init w_NT_init rm_NT_init (va_Pc [.ref x, .int v1] (Xp E (rawNT x) sz)) (QN E (rawNT x) sz x k) 59 1438 (va_A (rawNT x) sz) := by
  refine Met.ofW (cc := b_NT_init) (maxL := 4) (ret := none) (by decide) rfl ?_
  intro p e s m av below meth c s₁ B hml hv
  obtain ⟨rfl, hXp⟩ := hv
  have hw := Xd.start hXp
  obtain ⟨rfl, -⟩ := hXp
  have hX : CallFix p m c b_NT_init 4 s _ w_NT_init "NibbleTrie" := ⟨B.exec, B.bytes, hml, findClass_of_methodNamed B.named, atoms_spec (ws := w_NT_init) B.pre⟩
  have hx := hX.1
  have hb := hX.2.1
  have hown := hX.2.2.2.1
  have hts := hX.2.2.2.2
  have hr := B.returns
  have hlk := B.notSynchronized
  have hin : meth.name = "<init>" := (name_of_methodNamed B.named B.method).1
  have hl := lv_entry ([.ref x, .int v1]) (n := 4) (Nat.le_of_ble_eq_true rfl)
  rw [lg_entry_eq]
  generalize (lg_sl ([.ref x, .int v1]) ++ List.replicate (4 - (lg_sl ([.ref x, .int v1])).length) Slot.unset).toArray = ls at hl ⊢
  have hl : lv_has ls 4 [(0, .ref x), (1, .int v1)] := hl
  refine lv_aload_n hx hb d_NT_init_0 rfl (lv_at hl 0 rfl) ?_
  refine W.objInit hx hb hown (hts _ (List.mem_cons_of_mem _ t_14)) (hts _ (List.mem_cons_of_mem _ t_15)) (hts _ (List.mem_cons_of_mem _ t_obj)) rfl (by rw [hml]; exact hl.1) rfl d_NT_init_1 (Nat.le_of_ble_eq_true rfl) (Nat.le_of_ble_eq_true rfl) ?_
  refine W.eq (g2 := F0 m 4 ls []) rfl ?_
  refine lv_aload_n hx hb d_NT_init_4 rfl (lv_at hl 0 rfl) ?_
  refine x_new hX 2 in_TR T_TR T_TR_ok t_17 t_18 t_2 hw rfl [.null, .int 0, .int 0, .int 0, .null, .null, .null, .null, .null, .null] (by intro j hj; rcases (show j = 0 ∨ j = 1 ∨ j = 2 ∨ j = 3 ∨ j = 4 ∨ j = 5 ∨ j = 6 ∨ j = 7 ∨ j = 8 ∨ j = 9 by omega) with rfl | rfl | rfl | rfl | rfl | rfl | rfl | rfl | rfl | rfl <;> rfl) (Nat.le_of_ble_eq_true rfl) (Nat.le_of_ble_eq_true rfl) d_NT_init_5 (fun q5 H hw => ?_)
  refine lv_dup hx hb d_NT_init_8 rfl ?_
  refine x_call (ws := rawNT x ++ rawTR q5) (wr := rawNT x) (va_runIN (As := []) (rest := [.ref q5, .ref x]) hX (m_TR_init l q5) (cn_TR_init hts hw.2.2.2.2.2.1.1 ⟨(Nat.le_of_ble_eq_true rfl), (Nat.le_of_ble_eq_true rfl)⟩) (hw.pre [1] rfl rfl rfl) rfl rfl hl.1 rfl (lv_room (Nat.le_of_ble_eq_true rfl)) d_NT_init_9 ⟨(Nat.le_of_ble_eq_true rfl), (Nat.le_of_ble_eq_true rfl)⟩) hw [1] [0] rfl rfl (by decide) (by decide) (fun u9 H locs hw => ?_)
  have hw : Xd E ((x, .inr (3, [.null, .null, .int 0, .null])) :: TRl E q5 u9) (va_A (rawNT x) s.heap.size) s.heap H locs s := hw
  refine x_putF (v := .ref q5) (ty := .object "NibbleTrie$Trie") hX 3 in_NT T_NT T_NT_ok n_NT hin hw 0 rfl rfl 0 (by decide) t_123 rfl rfl (by decide +kernel) rfl rfl (Nat.le_of_ble_eq_true rfl) d_NT_init_12 (fun H locs hw => ?_)
  have hw : Xd E ((x, .inr (3, [.ref q5, .null, .int 0, .null])) :: TRl E q5 u9) (va_A (rawNT x) s.heap.size) s.heap H locs s := hw
  refine lv_aload_n hx hb d_NT_init_15 rfl (lv_at hl 0 rfl) ?_
  refine lv_iconst (v := 0) hx hb d_NT_init_16 (by decide) ?_
  refine x_put (v := .int 0) (ty := .int) hX 3 in_NT T_NT T_NT_ok n_NT hw 0 rfl rfl 2 (by decide) t_125 rfl (by decide +kernel) rfl rfl (Nat.le_of_ble_eq_true rfl) d_NT_init_17 (fun H locs hw => ?_)
  have hw : Xd E ((x, .inr (3, [.ref q5, .null, .int 0, .null])) :: TRl E q5 u9) (va_A (rawNT x) s.heap.size) s.heap H locs s := hw
  refine lv_aload_n hx hb d_NT_init_20 rfl (lv_at hl 0 rfl) ?_
  refine x_new hX 1 in_PF T_PF T_PF_ok t_83 t_84 t_4 hw rfl [.null, .int 0, .int 0, .int 0, .int 0, .int 0, .int 0, .long 0] (by intro j hj; rcases (show j = 0 ∨ j = 1 ∨ j = 2 ∨ j = 3 ∨ j = 4 ∨ j = 5 ∨ j = 6 ∨ j = 7 by omega) with rfl | rfl | rfl | rfl | rfl | rfl | rfl | rfl <;> rfl) (Nat.le_of_ble_eq_true rfl) (Nat.le_of_ble_eq_true rfl) d_NT_init_21 (fun q21 H hw => ?_)
  have hw : Xd E (([(x, .inr (3, [.ref q5, .null, .int 0, .null]))] ++ TRl E q5 u9) ++ rawPF q21) (va_A (rawNT x) s.heap.size) s.heap H _ s := hw
  have hw := hw.swap
  refine lv_dup hx hb d_NT_init_24 rfl ?_
  refine x_callQ (ws := [(x, .inr (3, [.ref q5, .null, .int 0, .null]))] ++ rawPF q21) (wr := [(x, .inr (3, [.ref q5, .null, .int 0, .null]))]) (va_runIN (As := []) (rest := [.ref q21, .ref x]) hX (m_PF_init l q21) (cn_PF_init hts hw.2.2.2.2.2.1.2.2.1 ⟨(Nat.le_of_ble_eq_true rfl), (Nat.le_of_ble_eq_true rfl)⟩) (hw.pre [1] rfl rfl rfl) rfl rfl hl.1 rfl (lv_room (Nat.le_of_ble_eq_true rfl)) d_NT_init_25 ⟨(Nat.le_of_ble_eq_true rfl), (Nat.le_of_ble_eq_true rfl)⟩) hw [1] [0] rfl rfl rfl (by decide) (by decide) (fun u25 H locs hw => ?_)
  have hw : Xd E (([(x, .inr (3, [.ref q5, .null, .int 0, .null]))] ++ PFl E q21 u25) ++ TRl E q5 u9) (va_A (rawNT x) s.heap.size) s.heap H locs s := hw
  refine x_putF (v := .ref q21) (ty := .object "NibbleTrie$Proof") hX 3 in_NT T_NT T_NT_ok n_NT hin hw 0 rfl rfl 3 (by decide) t_126 rfl rfl (by decide +kernel) rfl rfl (Nat.le_of_ble_eq_true rfl) d_NT_init_28 (fun H locs hw => ?_)
  have hw : Xd E (([(x, .inr (3, [.ref q5, .null, .int 0, .ref q21]))] ++ PFl E q21 u25) ++ TRl E q5 u9) (va_A (rawNT x) s.heap.size) s.heap H locs s := hw
  refine lv_iconst (v := 1) hx hb d_NT_init_31 (by decide) ?_
  refine lv_iconst (v := 3) hx hb d_NT_init_32 (by decide) ?_
  refine lv_iload_n hx hb d_NT_init_33 rfl (lv_at hl 1 rfl) ?_
  refine va_mmin hx hb (hml.trans hl.1.symm) hown (hts _ (List.mem_cons_of_mem _ t_116)) (hts _ (List.mem_cons_of_mem _ t_mn)) (hts _ (List.mem_cons_of_mem _ t_ma)) (hts _ (List.mem_cons_of_mem _ t_mnc)) (Nat.le_of_ble_eq_true rfl) (Nat.le_of_ble_eq_true rfl) (Nat.le_of_ble_eq_true rfl) (Nat.le_of_ble_eq_true rfl) d_NT_init_34 ?_
  refine va_mmax hx hb (hml.trans hl.1.symm) hown (hts _ (List.mem_cons_of_mem _ t_119)) (hts _ (List.mem_cons_of_mem _ t_mx)) (hts _ (List.mem_cons_of_mem _ t_ma)) (hts _ (List.mem_cons_of_mem _ t_mxc)) (Nat.le_of_ble_eq_true rfl) (Nat.le_of_ble_eq_true rfl) (Nat.le_of_ble_eq_true rfl) (Nat.le_of_ble_eq_true rfl) d_NT_init_37 ?_
  refine lv_topi (fun y ey => ?_)
  have ey : y = nI k := ey.trans hk
  subst ey
  refine lv_istore_n (lv' := [(2, .int (nI k)), (0, .ref x), (1, .int v1)]) hx hb d_NT_init_40 rfl hl (by decide) rfl (fun ls hl => ?_)
  refine lv_aload_n hx hb d_NT_init_41 rfl (lv_at hl 1 rfl) ?_
  refine lv_iload_n hx hb d_NT_init_42 rfl (lv_at hl 0 rfl) ?_
  refine x_newq hX t_17 hw k (nI_pos (by omega)) (nI_clamp (by omega)) (by omega) (Nat.le_of_ble_eq_true rfl) (by show 514 + k ≤ 1438; omega) d_NT_init_43 (fun q43 H hw => ?_)
  have hw : Xd E (([(x, .inr (3, [.ref q5, .null, .int 0, .ref q21]))] ++ (PFl E q21 u25 ++ TRl E q5 u9)) ++ [(q43, .inl (E.2.2.2.1, k, .inr (.inr (.inr (.inr (fun _ => none))))))]) (va_A (rawNT x) s.heap.size) s.heap H _ s := hw
  have hw := hw.swap
  refine x_putF (v := .ref q43) (ty := .array (.object "NibbleTrie$Trie")) hX 3 in_NT T_NT T_NT_ok n_NT hin hw 0 rfl rfl 1 (by decide) t_124 rfl rfl (by decide +kernel) rfl rfl (Nat.le_of_ble_eq_true rfl) d_NT_init_46 (fun H locs hw => ?_)
  refine lv_iconst (v := 0) hx hb d_NT_init_49 (by decide) ?_
  refine lv_istore_n (lv' := [(3, .int 0), (2, .int (nI k)), (0, .ref x), (1, .int v1)]) hx hb d_NT_init_50 rfl hl (by decide) rfl (fun ls hl => ?_)
  refine W.widen (k := 17) (n := 517) (Nat.le_of_ble_eq_true rfl) (by show 514 + k ≤ 517; omega) ?_
  refine w_NT_init_51 hX hr hlk hk3 (b := fun j => [q43, q21, u25 0].getD j 0) k 0 (fun _ => q5) (fun _ => u9) _ _ _ (by omega) (lv_sub hl [2, 1, 0] rfl) (hw.to ?_)
  have ef : (fun j => if j < 0 then some q5 else none : Nat → Option Nat) = (fun _ => none) := by funext j; rw [if_neg (by omega)]
  show _ = [(x, .inr (3, [.ref q5, .ref q43, .int 0, .ref q21])), (q43, .inl (E.2.2.2.1, k, .inr (.inr (.inr (.inr (fun j => if j < 0 then some q5 else none))))))] ++ (_ ++ flt E (0 + 1) (fun _ => q5) (fun _ => u9))
  rw [ef]
  rfl
