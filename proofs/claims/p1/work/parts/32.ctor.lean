/-! The constructors of the map, the proof, the trie and the reference. -/
theorem t_obj : Cond.code objectInit ⟨#[0xb1]⟩ 1 none ∈ tG := tg_of (i := 16) (by decide +kernel) (by decide +kernel)
theorem t_27 : Cond.code ⟨"NibbleTrie$PathMap", "<init>", "()V"⟩ prog_3_method_1_code 1 none ∈ tG := tg_of (i := 27) (by decide +kernel) (by decide +kernel)
theorem t_26 : Cond.instanceMethod ⟨"NibbleTrie$PathMap", "<init>", "()V"⟩ ∈ tG := tg_of (i := 26) (by decide +kernel) (by decide +kernel)
theorem t_87 : Cond.code ⟨"NibbleTrie$Proof", "<init>", "()V"⟩ prog_4_method_1_code 1 none ∈ tG := tg_of (i := 87) (by decide +kernel) (by decide +kernel)
theorem t_86 : Cond.instanceMethod ⟨"NibbleTrie$Proof", "<init>", "()V"⟩ ∈ tG := tg_of (i := 86) (by decide +kernel) (by decide +kernel)
theorem t_21 : Cond.code ⟨"NibbleTrie$Trie", "<init>", "()V"⟩ prog_5_method_1_code 1 none ∈ tG := tg_of (i := 21) (by decide +kernel) (by decide +kernel)
theorem t_20 : Cond.instanceMethod ⟨"NibbleTrie$Trie", "<init>", "()V"⟩ ∈ tG := tg_of (i := 20) (by decide +kernel) (by decide +kernel)
theorem t_410 : Cond.code ⟨"NibbleTrieModel", "<init>", "(I)V"⟩ prog_7_method_1_code 2 none ∈ tG := tg_of (i := 410) (by decide +kernel) (by decide +kernel)
theorem t_409 : Cond.instanceMethod ⟨"NibbleTrieModel", "<init>", "(I)V"⟩ ∈ tG := tg_of (i := 409) (by decide +kernel) (by decide +kernel)
theorem t_28 : Cond.methodLink "NibbleTrie$PathMap" 3 ⟨"java/lang/Object", "<init>", "()V"⟩ ∈ tG := tg_of (i := 28) (by decide +kernel) (by decide +kernel)
theorem t_15 : Cond.instanceMethod ⟨"java/lang/Object", "<init>", "()V"⟩ ∈ tG := tg_of (i := 15) (by decide +kernel) (by decide +kernel)
theorem t_43 : Cond.arrayClass .int ∈ tG := tg_of (i := 43) (by decide +kernel) (by decide +kernel)
theorem t_88 : Cond.methodLink "NibbleTrie$Proof" 3 ⟨"java/lang/Object", "<init>", "()V"⟩ ∈ tG := tg_of (i := 88) (by decide +kernel) (by decide +kernel)
theorem t_82 : Cond.arrayClass .long ∈ tG := tg_of (i := 82) (by decide +kernel) (by decide +kernel)
theorem t_22 : Cond.methodLink "NibbleTrie$Trie" 3 ⟨"java/lang/Object", "<init>", "()V"⟩ ∈ tG := tg_of (i := 22) (by decide +kernel) (by decide +kernel)
theorem t_23 : Cond.classLink "NibbleTrie$Trie" 9 "NibbleTrie$PathMap" ∈ tG := tg_of (i := 23) (by decide +kernel) (by decide +kernel)
theorem t_24 : Cond.instantiable "NibbleTrie$PathMap" 3 ∈ tG := tg_of (i := 24) (by decide +kernel) (by decide +kernel)
theorem t_44 : Cond.classLink "NibbleTrie$Trie" 45 "[[J" ∈ tG := tg_of (i := 44) (by decide +kernel) (by decide +kernel)
theorem t_411 : Cond.methodLink "NibbleTrieModel" 1 ⟨"java/lang/Object", "<init>", "()V"⟩ ∈ tG := tg_of (i := 411) (by decide +kernel) (by decide +kernel)
abbrev rawPM (a : Nat) : va_W := [(a, .inr (0, [.null, .null, .int 0]))]
abbrev rawPF (a : Nat) : va_W := [(a, .inr (1, [.null, .int 0, .int 0, .int 0, .int 0, .int 0, .int 0, .long 0]))]
abbrev rawTR (a : Nat) : va_W := [(a, .inr (2, [.null, .int 0, .int 0, .int 0, .null, .null, .null, .null, .null, .null]))]
abbrev rawNT (a : Nat) : va_W := [(a, .inr (3, [.null, .null, .int 0, .null]))]
abbrev rawMO (a : Nat) : va_W := [(a, .inr (4, [.null, .null, .null, .int 0, .int 0, .null, .null, .null, .null, .int 0, .null, .int 0, .int 0, .long 0, .long 0, .int 0, .int 0]))]
abbrev PMl (E : En) (a : Nat) (u : Nat → Nat) : va_W := [(a, .inr (0, [.ref (u 0), .ref (u 1), .int 0])), (u 0, .inl (E.2.1, 16, .inl (fun _ => 0))), (u 1, .inl (E.2.1, 16, .inl (fun _ => 0)))]
abbrev PFl (E : En) (a : Nat) (u : Nat → Nat) : va_W := [(a, .inr (1, [.ref (u 0), .int 0, .int 0, .int 0, .int 1, .int 0, .int 0, .long 0])), (u 0, .inl (E.2.2.1, 199, .inr (.inl (fun _ => 0))))]
abbrev TRl (E : En) (a : Nat) (u : Nat → Nat) : va_W := [(a, .inr (2, [.ref (u 0), .int 0, .int 0, .int 0, .ref (u 3), .ref (u 4), .ref (u 5), .ref (u 6), .ref (u 7), .ref (u 8)])), (u 0, .inr (0, [.ref (u 1), .ref (u 2), .int 0])), (u 1, .inl (E.2.1, 16, .inl (fun _ => 0))), (u 2, .inl (E.2.1, 16, .inl (fun _ => 0))), (u 3, .inl (E.2.1, 15, .inl (fun _ => 0))), (u 4, .inl (E.2.1, 15, .inl (fun _ => 0))), (u 5, .inl (E.2.1, 15, .inl (fun _ => 0))), (u 6, .inl (E.2.1, 15, .inl (fun _ => 0))), (u 7, .inl (E.2.2.1, 2, .inr (.inl (fun _ => 0)))), (u 8, .inl (E.2.2.2.2, 4, .inr (.inr (.inr (.inr (fun j => some (u (9 + j)))))))), (u 9, .inl (E.2.2.1, 49, .inr (.inl (fun _ => 0)))), (u 10, .inl (E.2.2.1, 49, .inr (.inl (fun _ => 0)))), (u 11, .inl (E.2.2.1, 49, .inr (.inl (fun _ => 0)))), (u 12, .inl (E.2.2.1, 49, .inr (.inl (fun _ => 0))))]
abbrev MOl (E : En) (a : Nat) (v : Int32) (u : Nat → Nat) : va_W := [(a, .inr (4, [.ref (u 0), .ref (u 1), .ref (u 2), .int 0, .int v, .ref (u 3), .ref (u 4), .ref (u 5), .ref (u 6), .int 0, .ref (u 7), .int 0, .int 0, .long 0, .long 0, .int 0, .int 0])), (u 0, .inl (E.2.1, 64, .inl (fun _ => 0))), (u 1, .inl (E.2.1, 64, .inl (fun _ => 0))), (u 2, .inl (E.2.1, 4, .inl (fun _ => 0))), (u 3, .inl (E.2.1, 64, .inl (fun _ => 0))), (u 4, .inl (E.2.2.1, 64, .inr (.inl (fun _ => 0)))), (u 5, .inl (E.2.1, 4, .inl (fun _ => 0))), (u 6, .inl (E.2.2.1, 64, .inr (.inl (fun _ => 0)))), (u 7, .inl (E.2.2.1, 256, .inr (.inl (fun _ => 0))))]
theorem x_call {p : Program} {l : Launch} {e : Env} {R : Room} {s : State} {m : MethodId} {args : Array Value} {below : List Frame} {meth : Method} {c : Code} {H : Heap} {locs : List Loc} {cells slots mc ms pc : Nat} {Q : State → Prop} {ls : Array Slot} {rest st0 : List Value} {E : En} {ws cx wr : va_W} {wl : (Nat → Nat) → va_W} {A : Nat → Prop} {av : Array Value} (hr : va_Run p l e R s m args below meth c H locs cells slots mc ms (F0 m pc ls st0) rest (QX E cx H.size wl av) (va_A cx H.size)) (hw : Xd E ws A s.heap H locs s) (isC isR : List Nat) (hC : isC.map (fun i => ws[i]?) = cx.map some) (hR : isR.map (fun i => ws[i]?) = wr.map some) (hn : va_nd isR = true) (hdis : ∀ i ∈ isR, i ∉ isC)
    (kk : ∀ (u : Nat → Nat) (H1 : Heap) (locs1 : List Loc), Xd E (wr ++ wl u) A s.heap H1 locs1 s → W p l e R s m args below meth c H1 locs1 (cells + mc) (slots + ms) Q (F0 m (pc + 3) ls rest)) : W p l e R s m args below meth c H locs cells slots Q (F0 m pc ls st0) := by
  have hF := va_free (wc := cx) hw.2.1 hw.2.2.1 hw.2.2.2.2.1 isC hC
  refine va_callv (A1 := va_A cx H.size) hr hw.2.2.1 (fun q _ h => hF q h) hF (fun u t H1 locs1 ht _ _ hB _ hk1 hS => ?_)
  obtain ⟨hP1, hD1⟩ := hB
  rw [ht] at hP1
  obtain ⟨hP, hD⟩ := va_join (wr := wr) (w1 := wl u) hw.1 hw.2.1 isC isR hC hR hn hdis hk1 hF hP1 hD1
  exact kk u H1 locs1 ⟨hP, hD, hS, hw.2.2.2⟩
abbrev y_PM_init : MethodName := ⟨"NibbleTrie$PathMap", "<init>", "()V"⟩
abbrev b_PM_init : ByteArray := prog_3_method_1_code
abbrev w_PM_init : List Cond := Cond.code y_PM_init b_PM_init 1 none :: tG
def rm_PM_init : Room := { frames := 1, cells := 2, slots := 32, locals := 21 }
theorem cn_PM_init {R : Room} {s : State} {args : Array Value} {own : String} {idx : Nat} {q : Cond} (hts : ∀ w ∈ q :: tG, w.before args s = true) (hl : va_Nw (.methodLinkNest own idx y_PM_init "NibbleTrie") s) (hR : rm_PM_init.frames + 1 ≤ R.frames ∧ 8 + (1 + 11) + rm_PM_init.locals ≤ R.locals) : va_CN R s args own idx y_PM_init "NibbleTrie" b_PM_init 1 none w_PM_init rm_PM_init 2 32 0 ∧ y_PM_init.name = "<init>" ∧ (Cond.instanceMethod y_PM_init).before args s = true := ⟨va_cnB 0 hts (gx t_27) rfl rfl rfl hl (hts _ (List.mem_cons_of_mem _ t_3)) (by decide +kernel) hR, rfl, hts _ (List.mem_cons_of_mem _ t_26)⟩
abbrev y_PF_init : MethodName := ⟨"NibbleTrie$Proof", "<init>", "()V"⟩
abbrev b_PF_init : ByteArray := prog_4_method_1_code
abbrev w_PF_init : List Cond := Cond.code y_PF_init b_PF_init 1 none :: tG
def rm_PF_init : Room := { frames := 1, cells := 1, slots := 199, locals := 21 }
theorem cn_PF_init {R : Room} {s : State} {args : Array Value} {own : String} {idx : Nat} {q : Cond} (hts : ∀ w ∈ q :: tG, w.before args s = true) (hl : va_Nw (.methodLinkNest own idx y_PF_init "NibbleTrie") s) (hR : rm_PF_init.frames + 1 ≤ R.frames ∧ 8 + (1 + 11) + rm_PF_init.locals ≤ R.locals) : va_CN R s args own idx y_PF_init "NibbleTrie" b_PF_init 1 none w_PF_init rm_PF_init 1 199 0 ∧ y_PF_init.name = "<init>" ∧ (Cond.instanceMethod y_PF_init).before args s = true := ⟨va_cnB 0 hts (gx t_87) rfl rfl rfl hl (hts _ (List.mem_cons_of_mem _ t_4)) (by decide +kernel) hR, rfl, hts _ (List.mem_cons_of_mem _ t_86)⟩
abbrev y_TR_init : MethodName := ⟨"NibbleTrie$Trie", "<init>", "()V"⟩
abbrev b_TR_init : ByteArray := prog_5_method_1_code
abbrev w_TR_init : List Cond := Cond.code y_TR_init b_TR_init 1 none :: tG
def rm_TR_init : Room := { frames := 2, cells := 13, slots := 297, locals := 60 }
theorem cn_TR_init {R : Room} {s : State} {args : Array Value} {own : String} {idx : Nat} {q : Cond} (hts : ∀ w ∈ q :: tG, w.before args s = true) (hl : va_Nw (.methodLinkNest own idx y_TR_init "NibbleTrie") s) (hR : rm_TR_init.frames + 1 ≤ R.frames ∧ 8 + (1 + 11) + rm_TR_init.locals ≤ R.locals) : va_CN R s args own idx y_TR_init "NibbleTrie" b_TR_init 1 none w_TR_init rm_TR_init 13 297 0 ∧ y_TR_init.name = "<init>" ∧ (Cond.instanceMethod y_TR_init).before args s = true := ⟨va_cnB 0 hts (gx t_21) rfl rfl rfl hl (hts _ (List.mem_cons_of_mem _ t_2)) (by decide +kernel) hR, rfl, hts _ (List.mem_cons_of_mem _ t_20)⟩
abbrev y_MO_init : MethodName := ⟨"NibbleTrieModel", "<init>", "(I)V"⟩
abbrev b_MO_init : ByteArray := prog_7_method_1_code
abbrev w_MO_init : List Cond := Cond.code y_MO_init b_MO_init 2 none :: tG
def rm_MO_init : Room := { frames := 1, cells := 8, slots := 584, locals := 21 }
theorem cb_MO_init {R : Room} {s : State} {args : Array Value} {own : String} {idx : Nat} {q : Cond} (hts : ∀ w ∈ q :: tG, w.before args s = true) (hl : Cond.methodLink own idx y_MO_init ∈ tG) (hR : rm_MO_init.frames + 1 ≤ R.frames ∧ 8 + (2 + 11) + rm_MO_init.locals ≤ R.locals) : CallB R s args own idx y_MO_init b_MO_init 2 none w_MO_init rm_MO_init 8 584 1 ∧ y_MO_init.name = "<init>" ∧ (Cond.instanceMethod y_MO_init).before args s = true := ⟨callB_of 1 hts (gx t_410) rfl rfl rfl (hts _ (List.mem_cons_of_mem _ t_6)) (hts _ (List.mem_cons_of_mem _ hl)) (by decide +kernel) hR, rfl, hts _ (List.mem_cons_of_mem _ t_409)⟩
theorem d_PM_init_0 : decode b_PM_init 0 = .ok (.aload_n 0, 1) := by decide +kernel
theorem d_PM_init_1 : decode b_PM_init 1 = .ok (.invokespecial 3, 3) := by decide +kernel
theorem d_PM_init_4 : decode b_PM_init 4 = .ok (.aload_n 0, 1) := by decide +kernel
theorem d_PM_init_5 : decode b_PM_init 5 = .ok (.bipush 16, 2) := by decide +kernel
theorem d_PM_init_7 : decode b_PM_init 7 = .ok (.newarray .int, 2) := by decide +kernel
theorem d_PM_init_9 : decode b_PM_init 9 = .ok (.putfield 9, 3) := by decide +kernel
theorem d_PM_init_12 : decode b_PM_init 12 = .ok (.aload_n 0, 1) := by decide +kernel
theorem d_PM_init_13 : decode b_PM_init 13 = .ok (.bipush 16, 2) := by decide +kernel
theorem d_PM_init_15 : decode b_PM_init 15 = .ok (.newarray .int, 2) := by decide +kernel
theorem d_PM_init_17 : decode b_PM_init 17 = .ok (.putfield 15, 3) := by decide +kernel
theorem d_PM_init_20 : decode b_PM_init 20 = .ok (.aload_n 0, 1) := by decide +kernel
theorem d_PM_init_21 : decode b_PM_init 21 = .ok (.iconst 0, 1) := by decide +kernel
theorem d_PM_init_22 : decode b_PM_init 22 = .ok (.putfield 18, 3) := by decide +kernel
theorem d_PM_init_25 : decode b_PM_init 25 = .ok (.return_, 1) := by decide +kernel
theorem d_PF_init_0 : decode b_PF_init 0 = .ok (.aload_n 0, 1) := by decide +kernel
theorem d_PF_init_1 : decode b_PF_init 1 = .ok (.invokespecial 3, 3) := by decide +kernel
theorem d_PF_init_4 : decode b_PF_init 4 = .ok (.aload_n 0, 1) := by decide +kernel
theorem d_PF_init_5 : decode b_PF_init 5 = .ok (.sipush 199, 3) := by decide +kernel
theorem d_PF_init_8 : decode b_PF_init 8 = .ok (.newarray .long, 2) := by decide +kernel
theorem d_PF_init_10 : decode b_PF_init 10 = .ok (.putfield 9, 3) := by decide +kernel
theorem d_PF_init_13 : decode b_PF_init 13 = .ok (.aload_n 0, 1) := by decide +kernel
theorem d_PF_init_14 : decode b_PF_init 14 = .ok (.iconst 0, 1) := by decide +kernel
theorem d_PF_init_15 : decode b_PF_init 15 = .ok (.putfield 15, 3) := by decide +kernel
theorem d_PF_init_18 : decode b_PF_init 18 = .ok (.aload_n 0, 1) := by decide +kernel
theorem d_PF_init_19 : decode b_PF_init 19 = .ok (.iconst 0, 1) := by decide +kernel
theorem d_PF_init_20 : decode b_PF_init 20 = .ok (.putfield 19, 3) := by decide +kernel
theorem d_PF_init_23 : decode b_PF_init 23 = .ok (.aload_n 0, 1) := by decide +kernel
theorem d_PF_init_24 : decode b_PF_init 24 = .ok (.iconst 0, 1) := by decide +kernel
theorem d_PF_init_25 : decode b_PF_init 25 = .ok (.putfield 22, 3) := by decide +kernel
theorem d_PF_init_28 : decode b_PF_init 28 = .ok (.aload_n 0, 1) := by decide +kernel
theorem d_PF_init_29 : decode b_PF_init 29 = .ok (.iconst 1, 1) := by decide +kernel
theorem d_PF_init_30 : decode b_PF_init 30 = .ok (.putfield 27, 3) := by decide +kernel
theorem d_PF_init_33 : decode b_PF_init 33 = .ok (.aload_n 0, 1) := by decide +kernel
theorem d_PF_init_34 : decode b_PF_init 34 = .ok (.iconst 0, 1) := by decide +kernel
theorem d_PF_init_35 : decode b_PF_init 35 = .ok (.putfield 30, 3) := by decide +kernel
theorem d_PF_init_38 : decode b_PF_init 38 = .ok (.aload_n 0, 1) := by decide +kernel
theorem d_PF_init_39 : decode b_PF_init 39 = .ok (.iconst 0, 1) := by decide +kernel
theorem d_PF_init_40 : decode b_PF_init 40 = .ok (.putfield 33, 3) := by decide +kernel
theorem d_PF_init_43 : decode b_PF_init 43 = .ok (.aload_n 0, 1) := by decide +kernel
theorem d_PF_init_44 : decode b_PF_init 44 = .ok (.lconst 0, 1) := by decide +kernel
theorem d_PF_init_45 : decode b_PF_init 45 = .ok (.putfield 36, 3) := by decide +kernel
theorem d_PF_init_48 : decode b_PF_init 48 = .ok (.return_, 1) := by decide +kernel
theorem d_TR_init_0 : decode b_TR_init 0 = .ok (.aload_n 0, 1) := by decide +kernel
theorem d_TR_init_1 : decode b_TR_init 1 = .ok (.invokespecial 3, 3) := by decide +kernel
theorem d_TR_init_4 : decode b_TR_init 4 = .ok (.aload_n 0, 1) := by decide +kernel
theorem d_TR_init_5 : decode b_TR_init 5 = .ok (.new 9, 3) := by decide +kernel
theorem d_TR_init_8 : decode b_TR_init 8 = .ok (.dup, 1) := by decide +kernel
theorem d_TR_init_9 : decode b_TR_init 9 = .ok (.invokespecial 11, 3) := by decide +kernel
theorem d_TR_init_12 : decode b_TR_init 12 = .ok (.putfield 12, 3) := by decide +kernel
theorem d_TR_init_15 : decode b_TR_init 15 = .ok (.aload_n 0, 1) := by decide +kernel
theorem d_TR_init_16 : decode b_TR_init 16 = .ok (.iconst 0, 1) := by decide +kernel
theorem d_TR_init_17 : decode b_TR_init 17 = .ok (.putfield 18, 3) := by decide +kernel
theorem d_TR_init_20 : decode b_TR_init 20 = .ok (.aload_n 0, 1) := by decide +kernel
theorem d_TR_init_21 : decode b_TR_init 21 = .ok (.iconst 0, 1) := by decide +kernel
theorem d_TR_init_22 : decode b_TR_init 22 = .ok (.putfield 22, 3) := by decide +kernel
theorem d_TR_init_25 : decode b_TR_init 25 = .ok (.aload_n 0, 1) := by decide +kernel
theorem d_TR_init_26 : decode b_TR_init 26 = .ok (.iconst 0, 1) := by decide +kernel
theorem d_TR_init_27 : decode b_TR_init 27 = .ok (.putfield 25, 3) := by decide +kernel
theorem d_TR_init_30 : decode b_TR_init 30 = .ok (.aload_n 0, 1) := by decide +kernel
theorem d_TR_init_31 : decode b_TR_init 31 = .ok (.bipush 15, 2) := by decide +kernel
theorem d_TR_init_33 : decode b_TR_init 33 = .ok (.newarray .int, 2) := by decide +kernel
theorem d_TR_init_35 : decode b_TR_init 35 = .ok (.putfield 28, 3) := by decide +kernel
theorem d_TR_init_38 : decode b_TR_init 38 = .ok (.aload_n 0, 1) := by decide +kernel
theorem d_TR_init_39 : decode b_TR_init 39 = .ok (.bipush 15, 2) := by decide +kernel
theorem d_TR_init_41 : decode b_TR_init 41 = .ok (.newarray .int, 2) := by decide +kernel
theorem d_TR_init_43 : decode b_TR_init 43 = .ok (.putfield 32, 3) := by decide +kernel
theorem d_TR_init_46 : decode b_TR_init 46 = .ok (.aload_n 0, 1) := by decide +kernel
theorem d_TR_init_47 : decode b_TR_init 47 = .ok (.bipush 15, 2) := by decide +kernel
theorem d_TR_init_49 : decode b_TR_init 49 = .ok (.newarray .int, 2) := by decide +kernel
theorem d_TR_init_51 : decode b_TR_init 51 = .ok (.putfield 35, 3) := by decide +kernel
theorem d_TR_init_54 : decode b_TR_init 54 = .ok (.aload_n 0, 1) := by decide +kernel
theorem d_TR_init_55 : decode b_TR_init 55 = .ok (.bipush 15, 2) := by decide +kernel
theorem d_TR_init_57 : decode b_TR_init 57 = .ok (.newarray .int, 2) := by decide +kernel
theorem d_TR_init_59 : decode b_TR_init 59 = .ok (.putfield 38, 3) := by decide +kernel
theorem d_TR_init_62 : decode b_TR_init 62 = .ok (.aload_n 0, 1) := by decide +kernel
theorem d_TR_init_63 : decode b_TR_init 63 = .ok (.iconst 2, 1) := by decide +kernel
theorem d_TR_init_64 : decode b_TR_init 64 = .ok (.newarray .long, 2) := by decide +kernel
theorem d_TR_init_66 : decode b_TR_init 66 = .ok (.putfield 41, 3) := by decide +kernel
theorem d_TR_init_69 : decode b_TR_init 69 = .ok (.aload_n 0, 1) := by decide +kernel
theorem d_TR_init_70 : decode b_TR_init 70 = .ok (.iconst 4, 1) := by decide +kernel
theorem d_TR_init_71 : decode b_TR_init 71 = .ok (.bipush 49, 2) := by decide +kernel
theorem d_TR_init_73 : decode b_TR_init 73 = .ok (.multianewarray 45 2, 4) := by decide +kernel
theorem d_TR_init_77 : decode b_TR_init 77 = .ok (.putfield 47, 3) := by decide +kernel
theorem d_TR_init_80 : decode b_TR_init 80 = .ok (.return_, 1) := by decide +kernel
theorem d_MO_init_0 : decode b_MO_init 0 = .ok (.aload_n 0, 1) := by decide +kernel
theorem d_MO_init_1 : decode b_MO_init 1 = .ok (.invokespecial 1, 3) := by decide +kernel
theorem d_MO_init_4 : decode b_MO_init 4 = .ok (.aload_n 0, 1) := by decide +kernel
theorem d_MO_init_5 : decode b_MO_init 5 = .ok (.bipush 64, 2) := by decide +kernel
theorem d_MO_init_7 : decode b_MO_init 7 = .ok (.newarray .int, 2) := by decide +kernel
theorem d_MO_init_9 : decode b_MO_init 9 = .ok (.putfield 7, 3) := by decide +kernel
theorem d_MO_init_12 : decode b_MO_init 12 = .ok (.aload_n 0, 1) := by decide +kernel
theorem d_MO_init_13 : decode b_MO_init 13 = .ok (.bipush 64, 2) := by decide +kernel
theorem d_MO_init_15 : decode b_MO_init 15 = .ok (.newarray .int, 2) := by decide +kernel
theorem d_MO_init_17 : decode b_MO_init 17 = .ok (.putfield 13, 3) := by decide +kernel
theorem d_MO_init_20 : decode b_MO_init 20 = .ok (.aload_n 0, 1) := by decide +kernel
theorem d_MO_init_21 : decode b_MO_init 21 = .ok (.iconst 4, 1) := by decide +kernel
theorem d_MO_init_22 : decode b_MO_init 22 = .ok (.newarray .int, 2) := by decide +kernel
theorem d_MO_init_24 : decode b_MO_init 24 = .ok (.putfield 16, 3) := by decide +kernel
theorem d_MO_init_27 : decode b_MO_init 27 = .ok (.aload_n 0, 1) := by decide +kernel
theorem d_MO_init_28 : decode b_MO_init 28 = .ok (.bipush 64, 2) := by decide +kernel
theorem d_MO_init_30 : decode b_MO_init 30 = .ok (.newarray .int, 2) := by decide +kernel
theorem d_MO_init_32 : decode b_MO_init 32 = .ok (.putfield 19, 3) := by decide +kernel
theorem d_MO_init_35 : decode b_MO_init 35 = .ok (.aload_n 0, 1) := by decide +kernel
theorem d_MO_init_36 : decode b_MO_init 36 = .ok (.bipush 64, 2) := by decide +kernel
theorem d_MO_init_38 : decode b_MO_init 38 = .ok (.newarray .long, 2) := by decide +kernel
theorem d_MO_init_40 : decode b_MO_init 40 = .ok (.putfield 22, 3) := by decide +kernel
theorem d_MO_init_43 : decode b_MO_init 43 = .ok (.aload_n 0, 1) := by decide +kernel
theorem d_MO_init_44 : decode b_MO_init 44 = .ok (.iconst 4, 1) := by decide +kernel
theorem d_MO_init_45 : decode b_MO_init 45 = .ok (.newarray .int, 2) := by decide +kernel
theorem d_MO_init_47 : decode b_MO_init 47 = .ok (.putfield 26, 3) := by decide +kernel
theorem d_MO_init_50 : decode b_MO_init 50 = .ok (.aload_n 0, 1) := by decide +kernel
theorem d_MO_init_51 : decode b_MO_init 51 = .ok (.bipush 64, 2) := by decide +kernel
theorem d_MO_init_53 : decode b_MO_init 53 = .ok (.newarray .long, 2) := by decide +kernel
theorem d_MO_init_55 : decode b_MO_init 55 = .ok (.putfield 29, 3) := by decide +kernel
theorem d_MO_init_58 : decode b_MO_init 58 = .ok (.aload_n 0, 1) := by decide +kernel
theorem d_MO_init_59 : decode b_MO_init 59 = .ok (.sipush 256, 3) := by decide +kernel
theorem d_MO_init_62 : decode b_MO_init 62 = .ok (.newarray .long, 2) := by decide +kernel
theorem d_MO_init_64 : decode b_MO_init 64 = .ok (.putfield 32, 3) := by decide +kernel
theorem d_MO_init_67 : decode b_MO_init 67 = .ok (.aload_n 0, 1) := by decide +kernel
theorem d_MO_init_68 : decode b_MO_init 68 = .ok (.iload_n 1, 1) := by decide +kernel
theorem d_MO_init_69 : decode b_MO_init 69 = .ok (.iconst 1, 1) := by decide +kernel
theorem d_MO_init_70 : decode b_MO_init 70 = .ok (.if_icmp .ge 7, 3) := by decide +kernel
theorem d_MO_init_73 : decode b_MO_init 73 = .ok (.iconst 1, 1) := by decide +kernel
theorem d_MO_init_74 : decode b_MO_init 74 = .ok (.goto 13, 3) := by decide +kernel
theorem d_MO_init_77 : decode b_MO_init 77 = .ok (.iload_n 1, 1) := by decide +kernel
theorem d_MO_init_78 : decode b_MO_init 78 = .ok (.iconst 3, 1) := by decide +kernel
theorem d_MO_init_79 : decode b_MO_init 79 = .ok (.if_icmp .le 7, 3) := by decide +kernel
theorem d_MO_init_82 : decode b_MO_init 82 = .ok (.iconst 3, 1) := by decide +kernel
theorem d_MO_init_83 : decode b_MO_init 83 = .ok (.goto 4, 3) := by decide +kernel
theorem d_MO_init_86 : decode b_MO_init 86 = .ok (.iload_n 1, 1) := by decide +kernel
theorem d_MO_init_87 : decode b_MO_init 87 = .ok (.putfield 35, 3) := by decide +kernel
theorem d_MO_init_90 : decode b_MO_init 90 = .ok (.return_, 1) := by decide +kernel
set_option maxHeartbeats 4000000 in
set_option maxRecDepth 100000 in
theorem m_PM_init (l : Launch) {E : En} {sz : Nat} (a : Nat) : Met l y_PM_init w_PM_init rm_PM_init (va_Pc [.ref a] (Xp E (rawPM a) sz)) (QX E (rawPM a) sz (PMl E a)) 2 32 (va_A (rawPM a) sz) := by
  refine Met.ofW (cc := b_PM_init) (maxL := 1) (ret := none) (by decide) rfl ?_
  intro p e s m av below meth c s₁ B hml hv
  obtain ⟨rfl, hXp⟩ := hv
  have hw := Xd.start hXp
  obtain ⟨rfl, -⟩ := hXp
  have hX : CallFix p m c b_PM_init 1 s _ w_PM_init "NibbleTrie$PathMap" := ⟨B.exec, B.bytes, hml, findClass_of_methodNamed B.named, atoms_spec (ws := w_PM_init) B.pre⟩
  have hx := hX.1
  have hb := hX.2.1
  have hown := hX.2.2.2.1
  have hts := hX.2.2.2.2
  have hr := B.returns
  have hlk := B.notSynchronized
  have hin : meth.name = "<init>" := (name_of_methodNamed B.named B.method).1
  have hl := lv_entry ([.ref a]) (n := 1) (Nat.le_of_ble_eq_true rfl)
  rw [lg_entry_eq]
  generalize (lg_sl ([.ref a]) ++ List.replicate (1 - (lg_sl ([.ref a])).length) Slot.unset).toArray = ls at hl ⊢
  have hl : lv_has ls 1 [(0, .ref a)] := hl
  refine lv_aload_n hx hb d_PM_init_0 rfl (lv_at hl 0 rfl) ?_
  refine W.objInit hx hb hown (hts _ (List.mem_cons_of_mem _ t_28)) (hts _ (List.mem_cons_of_mem _ t_15)) (hts _ (List.mem_cons_of_mem _ t_obj)) rfl (by rw [hml]; exact hl.1) rfl d_PM_init_1 (Nat.le_of_ble_eq_true rfl) (Nat.le_of_ble_eq_true rfl) ?_
  refine W.eq (g2 := F0 m 4 ls []) rfl ?_
  refine lv_aload_n hx hb d_PM_init_4 rfl (lv_at hl 0 rfl) ?_
  refine lv_bipush (v := 16) hx hb d_PM_init_5 (by decide) ?_
  refine x_newi hX t_43 hw 16 (by decide) (by decide) (by decide) (Nat.le_of_ble_eq_true rfl) (Nat.le_of_ble_eq_true rfl) d_PM_init_7 (fun q7 H hw => ?_)
  have hw : Xd E [(a, .inr (0, [.null, .null, .int 0])), (q7, .inl (E.2.1, 16, .inl (fun _ => 0)))] (va_A (rawPM a) s.heap.size) s.heap H _ s := hw
  refine x_putF (v := .ref q7) (ty := .array .int) hX 0 in_PM T_PM T_PM_ok n_PM hin hw 0 rfl rfl 0 (by decide) t_29 rfl rfl (by decide +kernel) rfl rfl (Nat.le_of_ble_eq_true rfl) d_PM_init_9 (fun H locs hw => ?_)
  have hw : Xd E [(a, .inr (0, [.ref q7, .null, .int 0])), (q7, .inl (E.2.1, 16, .inl (fun _ => 0)))] (va_A (rawPM a) s.heap.size) s.heap H locs s := hw
  refine lv_aload_n hx hb d_PM_init_12 rfl (lv_at hl 0 rfl) ?_
  refine lv_bipush (v := 16) hx hb d_PM_init_13 (by decide) ?_
  refine x_newi hX t_43 hw 16 (by decide) (by decide) (by decide) (Nat.le_of_ble_eq_true rfl) (Nat.le_of_ble_eq_true rfl) d_PM_init_15 (fun q15 H hw => ?_)
  have hw : Xd E [(a, .inr (0, [.ref q7, .null, .int 0])), (q7, .inl (E.2.1, 16, .inl (fun _ => 0))), (q15, .inl (E.2.1, 16, .inl (fun _ => 0)))] (va_A (rawPM a) s.heap.size) s.heap H _ s := hw
  refine x_putF (v := .ref q15) (ty := .array .int) hX 0 in_PM T_PM T_PM_ok n_PM hin hw 0 rfl rfl 1 (by decide) t_31 rfl rfl (by decide +kernel) rfl rfl (Nat.le_of_ble_eq_true rfl) d_PM_init_17 (fun H locs hw => ?_)
  have hw : Xd E [(a, .inr (0, [.ref q7, .ref q15, .int 0])), (q7, .inl (E.2.1, 16, .inl (fun _ => 0))), (q15, .inl (E.2.1, 16, .inl (fun _ => 0)))] (va_A (rawPM a) s.heap.size) s.heap H locs s := hw
  refine lv_aload_n hx hb d_PM_init_20 rfl (lv_at hl 0 rfl) ?_
  refine lv_iconst (v := 0) hx hb d_PM_init_21 (by decide) ?_
  refine x_put (v := .int 0) (ty := .int) hX 0 in_PM T_PM T_PM_ok n_PM hw 0 rfl rfl 2 (by decide) t_33 rfl (by decide +kernel) rfl rfl (Nat.le_of_ble_eq_true rfl) d_PM_init_22 (fun H locs hw => ?_)
  have hw : Xd E [(a, .inr (0, [.ref q7, .ref q15, .int 0])), (q7, .inl (E.2.1, 16, .inl (fun _ => 0))), (q15, .inl (E.2.1, 16, .inl (fun _ => 0)))] (va_A (rawPM a) s.heap.size) s.heap H locs s := hw
  exact W.vret hx hb hr (fun t ht hW => ⟨⟨fun j => [q7, q15].getD j 0, rfl, trivial, by rw [ht]; exact hw.1, hw.2.1⟩, hw.2.2.1.F ht⟩) hw.2.2.1.2.2 d_PM_init_25
set_option maxHeartbeats 4000000 in
set_option maxRecDepth 100000 in
theorem m_PF_init (l : Launch) {E : En} {sz : Nat} (a : Nat) : Met l y_PF_init w_PF_init rm_PF_init (va_Pc [.ref a] (Xp E (rawPF a) sz)) (QX E (rawPF a) sz (PFl E a)) 1 199 (va_A (rawPF a) sz) := by
  refine Met.ofW (cc := b_PF_init) (maxL := 1) (ret := none) (by decide) rfl ?_
  intro p e s m av below meth c s₁ B hml hv
  obtain ⟨rfl, hXp⟩ := hv
  have hw := Xd.start hXp
  obtain ⟨rfl, -⟩ := hXp
  have hX : CallFix p m c b_PF_init 1 s _ w_PF_init "NibbleTrie$Proof" := ⟨B.exec, B.bytes, hml, findClass_of_methodNamed B.named, atoms_spec (ws := w_PF_init) B.pre⟩
  have hx := hX.1
  have hb := hX.2.1
  have hown := hX.2.2.2.1
  have hts := hX.2.2.2.2
  have hr := B.returns
  have hlk := B.notSynchronized
  have hin : meth.name = "<init>" := (name_of_methodNamed B.named B.method).1
  have hl := lv_entry ([.ref a]) (n := 1) (Nat.le_of_ble_eq_true rfl)
  rw [lg_entry_eq]
  generalize (lg_sl ([.ref a]) ++ List.replicate (1 - (lg_sl ([.ref a])).length) Slot.unset).toArray = ls at hl ⊢
  have hl : lv_has ls 1 [(0, .ref a)] := hl
  refine lv_aload_n hx hb d_PF_init_0 rfl (lv_at hl 0 rfl) ?_
  refine W.objInit hx hb hown (hts _ (List.mem_cons_of_mem _ t_88)) (hts _ (List.mem_cons_of_mem _ t_15)) (hts _ (List.mem_cons_of_mem _ t_obj)) rfl (by rw [hml]; exact hl.1) rfl d_PF_init_1 (Nat.le_of_ble_eq_true rfl) (Nat.le_of_ble_eq_true rfl) ?_
  refine W.eq (g2 := F0 m 4 ls []) rfl ?_
  refine lv_aload_n hx hb d_PF_init_4 rfl (lv_at hl 0 rfl) ?_
  refine lv_sipush (v := 199) hx hb d_PF_init_5 (by decide) ?_
  refine x_newj hX t_82 hw 199 (by decide) (by decide) (by decide) (Nat.le_of_ble_eq_true rfl) (Nat.le_of_ble_eq_true rfl) d_PF_init_8 (fun q8 H hw => ?_)
  have hw : Xd E [(a, .inr (1, [.null, .int 0, .int 0, .int 0, .int 0, .int 0, .int 0, .long 0])), (q8, .inl (E.2.2.1, 199, .inr (.inl (fun _ => 0))))] (va_A (rawPF a) s.heap.size) s.heap H _ s := hw
  refine x_putF (v := .ref q8) (ty := .array .long) hX 1 in_PF T_PF T_PF_ok n_PF hin hw 0 rfl rfl 0 (by decide) t_89 rfl rfl (by decide +kernel) rfl rfl (Nat.le_of_ble_eq_true rfl) d_PF_init_10 (fun H locs hw => ?_)
  have hw : Xd E [(a, .inr (1, [.ref q8, .int 0, .int 0, .int 0, .int 0, .int 0, .int 0, .long 0])), (q8, .inl (E.2.2.1, 199, .inr (.inl (fun _ => 0))))] (va_A (rawPF a) s.heap.size) s.heap H locs s := hw
  refine lv_aload_n hx hb d_PF_init_13 rfl (lv_at hl 0 rfl) ?_
  refine lv_iconst (v := 0) hx hb d_PF_init_14 (by decide) ?_
  refine x_put (v := .int 0) (ty := .int) hX 1 in_PF T_PF T_PF_ok n_PF hw 0 rfl rfl 1 (by decide) t_91 rfl (by decide +kernel) rfl rfl (Nat.le_of_ble_eq_true rfl) d_PF_init_15 (fun H locs hw => ?_)
  have hw : Xd E [(a, .inr (1, [.ref q8, .int 0, .int 0, .int 0, .int 0, .int 0, .int 0, .long 0])), (q8, .inl (E.2.2.1, 199, .inr (.inl (fun _ => 0))))] (va_A (rawPF a) s.heap.size) s.heap H locs s := hw
  refine lv_aload_n hx hb d_PF_init_18 rfl (lv_at hl 0 rfl) ?_
  refine lv_iconst (v := 0) hx hb d_PF_init_19 (by decide) ?_
  refine x_put (v := .int 0) (ty := .int) hX 1 in_PF T_PF T_PF_ok n_PF hw 0 rfl rfl 2 (by decide) t_93 rfl (by decide +kernel) rfl rfl (Nat.le_of_ble_eq_true rfl) d_PF_init_20 (fun H locs hw => ?_)
  have hw : Xd E [(a, .inr (1, [.ref q8, .int 0, .int 0, .int 0, .int 0, .int 0, .int 0, .long 0])), (q8, .inl (E.2.2.1, 199, .inr (.inl (fun _ => 0))))] (va_A (rawPF a) s.heap.size) s.heap H locs s := hw
  refine lv_aload_n hx hb d_PF_init_23 rfl (lv_at hl 0 rfl) ?_
  refine lv_iconst (v := 0) hx hb d_PF_init_24 (by decide) ?_
  refine x_put (v := .int 0) (ty := .int) hX 1 in_PF T_PF T_PF_ok n_PF hw 0 rfl rfl 3 (by decide) t_94 rfl (by decide +kernel) rfl rfl (Nat.le_of_ble_eq_true rfl) d_PF_init_25 (fun H locs hw => ?_)
  have hw : Xd E [(a, .inr (1, [.ref q8, .int 0, .int 0, .int 0, .int 0, .int 0, .int 0, .long 0])), (q8, .inl (E.2.2.1, 199, .inr (.inl (fun _ => 0))))] (va_A (rawPF a) s.heap.size) s.heap H locs s := hw
  refine lv_aload_n hx hb d_PF_init_28 rfl (lv_at hl 0 rfl) ?_
  refine lv_iconst (v := 1) hx hb d_PF_init_29 (by decide) ?_
  refine x_put (v := .int 1) (ty := .int) hX 1 in_PF T_PF T_PF_ok n_PF hw 0 rfl rfl 4 (by decide) t_95 rfl (by decide +kernel) rfl rfl (Nat.le_of_ble_eq_true rfl) d_PF_init_30 (fun H locs hw => ?_)
  have hw : Xd E [(a, .inr (1, [.ref q8, .int 0, .int 0, .int 0, .int 1, .int 0, .int 0, .long 0])), (q8, .inl (E.2.2.1, 199, .inr (.inl (fun _ => 0))))] (va_A (rawPF a) s.heap.size) s.heap H locs s := hw
  refine lv_aload_n hx hb d_PF_init_33 rfl (lv_at hl 0 rfl) ?_
  refine lv_iconst (v := 0) hx hb d_PF_init_34 (by decide) ?_
  refine x_put (v := .int 0) (ty := .int) hX 1 in_PF T_PF T_PF_ok n_PF hw 0 rfl rfl 5 (by decide) t_96 rfl (by decide +kernel) rfl rfl (Nat.le_of_ble_eq_true rfl) d_PF_init_35 (fun H locs hw => ?_)
  have hw : Xd E [(a, .inr (1, [.ref q8, .int 0, .int 0, .int 0, .int 1, .int 0, .int 0, .long 0])), (q8, .inl (E.2.2.1, 199, .inr (.inl (fun _ => 0))))] (va_A (rawPF a) s.heap.size) s.heap H locs s := hw
  refine lv_aload_n hx hb d_PF_init_38 rfl (lv_at hl 0 rfl) ?_
  refine lv_iconst (v := 0) hx hb d_PF_init_39 (by decide) ?_
  refine x_put (v := .int 0) (ty := .int) hX 1 in_PF T_PF T_PF_ok n_PF hw 0 rfl rfl 6 (by decide) t_97 rfl (by decide +kernel) rfl rfl (Nat.le_of_ble_eq_true rfl) d_PF_init_40 (fun H locs hw => ?_)
  have hw : Xd E [(a, .inr (1, [.ref q8, .int 0, .int 0, .int 0, .int 1, .int 0, .int 0, .long 0])), (q8, .inl (E.2.2.1, 199, .inr (.inl (fun _ => 0))))] (va_A (rawPF a) s.heap.size) s.heap H locs s := hw
  refine lv_aload_n hx hb d_PF_init_43 rfl (lv_at hl 0 rfl) ?_
  refine lv_lconst (v := 0) hx hb d_PF_init_44 (by decide) ?_
  refine x_put (v := .long 0) (ty := .long) hX 1 in_PF T_PF T_PF_ok n_PF hw 0 rfl rfl 7 (by decide) t_98 rfl (by decide +kernel) rfl rfl (Nat.le_of_ble_eq_true rfl) d_PF_init_45 (fun H locs hw => ?_)
  have hw : Xd E [(a, .inr (1, [.ref q8, .int 0, .int 0, .int 0, .int 1, .int 0, .int 0, .long 0])), (q8, .inl (E.2.2.1, 199, .inr (.inl (fun _ => 0))))] (va_A (rawPF a) s.heap.size) s.heap H locs s := hw
  exact W.vret hx hb hr (fun t ht hW => ⟨⟨fun j => [q8].getD j 0, rfl, trivial, by rw [ht]; exact hw.1, hw.2.1⟩, hw.2.2.1.F ht⟩) hw.2.2.1.2.2 d_PF_init_48
set_option maxHeartbeats 4000000 in
set_option maxRecDepth 100000 in
theorem m_TR_init (l : Launch) {E : En} {sz : Nat} (a : Nat) : Met l y_TR_init w_TR_init rm_TR_init (va_Pc [.ref a] (Xp E (rawTR a) sz)) (QX E (rawTR a) sz (TRl E a)) 13 297 (va_A (rawTR a) sz) := by
  refine Met.ofW (cc := b_TR_init) (maxL := 1) (ret := none) (by decide) rfl ?_
  intro p e s m av below meth c s₁ B hml hv
  obtain ⟨rfl, hXp⟩ := hv
  have hw := Xd.start hXp
  obtain ⟨rfl, -⟩ := hXp
  have hX : CallFix p m c b_TR_init 1 s _ w_TR_init "NibbleTrie$Trie" := ⟨B.exec, B.bytes, hml, findClass_of_methodNamed B.named, atoms_spec (ws := w_TR_init) B.pre⟩
  have hx := hX.1
  have hb := hX.2.1
  have hown := hX.2.2.2.1
  have hts := hX.2.2.2.2
  have hr := B.returns
  have hlk := B.notSynchronized
  have hin : meth.name = "<init>" := (name_of_methodNamed B.named B.method).1
  have hl := lv_entry ([.ref a]) (n := 1) (Nat.le_of_ble_eq_true rfl)
  rw [lg_entry_eq]
  generalize (lg_sl ([.ref a]) ++ List.replicate (1 - (lg_sl ([.ref a])).length) Slot.unset).toArray = ls at hl ⊢
  have hl : lv_has ls 1 [(0, .ref a)] := hl
  refine lv_aload_n hx hb d_TR_init_0 rfl (lv_at hl 0 rfl) ?_
  refine W.objInit hx hb hown (hts _ (List.mem_cons_of_mem _ t_22)) (hts _ (List.mem_cons_of_mem _ t_15)) (hts _ (List.mem_cons_of_mem _ t_obj)) rfl (by rw [hml]; exact hl.1) rfl d_TR_init_1 (Nat.le_of_ble_eq_true rfl) (Nat.le_of_ble_eq_true rfl) ?_
  refine W.eq (g2 := F0 m 4 ls []) rfl ?_
  refine lv_aload_n hx hb d_TR_init_4 rfl (lv_at hl 0 rfl) ?_
  refine x_new hX 0 in_PM T_PM T_PM_ok t_23 t_24 t_3 hw rfl [.null, .null, .int 0] (by intro j hj; rcases (show j = 0 ∨ j = 1 ∨ j = 2 by omega) with rfl | rfl | rfl <;> rfl) (Nat.le_of_ble_eq_true rfl) (Nat.le_of_ble_eq_true rfl) d_TR_init_5 (fun q5 H hw => ?_)
  have hw : Xd E [(a, .inr (2, [.null, .int 0, .int 0, .int 0, .null, .null, .null, .null, .null, .null])), (q5, .inr (0, [.null, .null, .int 0]))] (va_A (rawTR a) s.heap.size) s.heap H _ s := hw
  refine lv_dup hx hb d_TR_init_8 rfl ?_
  refine x_call (wr := [(a, .inr (2, [.null, .int 0, .int 0, .int 0, .null, .null, .null, .null, .null, .null]))]) (va_runIN (As := []) (rest := [.ref q5, .ref a]) hX (m_PM_init l q5) (cn_PM_init hts hw.2.2.2.2.2.1.2.1 ⟨(Nat.le_of_ble_eq_true rfl), (Nat.le_of_ble_eq_true rfl)⟩) (hw.pre [1] rfl rfl rfl) rfl rfl hl.1 rfl (lv_room (Nat.le_of_ble_eq_true rfl)) d_TR_init_9 ⟨(Nat.le_of_ble_eq_true rfl), (Nat.le_of_ble_eq_true rfl)⟩) hw [1] [0] rfl rfl (by decide) (by decide) (fun u9 H locs hw => ?_)
  have hw : Xd E [(a, .inr (2, [.null, .int 0, .int 0, .int 0, .null, .null, .null, .null, .null, .null])), (q5, .inr (0, [.ref (u9 0), .ref (u9 1), .int 0])), (u9 0, .inl (E.2.1, 16, .inl (fun _ => 0))), (u9 1, .inl (E.2.1, 16, .inl (fun _ => 0)))] (va_A (rawTR a) s.heap.size) s.heap H locs s := hw
  refine x_putF (v := .ref q5) (ty := .object "NibbleTrie$PathMap") hX 2 in_TR T_TR T_TR_ok n_TR hin hw 0 rfl rfl 0 (by decide) t_46 rfl rfl (by decide +kernel) rfl rfl (Nat.le_of_ble_eq_true rfl) d_TR_init_12 (fun H locs hw => ?_)
  have hw : Xd E [(a, .inr (2, [.ref q5, .int 0, .int 0, .int 0, .null, .null, .null, .null, .null, .null])), (q5, .inr (0, [.ref (u9 0), .ref (u9 1), .int 0])), (u9 0, .inl (E.2.1, 16, .inl (fun _ => 0))), (u9 1, .inl (E.2.1, 16, .inl (fun _ => 0)))] (va_A (rawTR a) s.heap.size) s.heap H locs s := hw
  refine lv_aload_n hx hb d_TR_init_15 rfl (lv_at hl 0 rfl) ?_
  refine lv_iconst (v := 0) hx hb d_TR_init_16 (by decide) ?_
  refine x_put (v := .int 0) (ty := .int) hX 2 in_TR T_TR T_TR_ok n_TR hw 0 rfl rfl 1 (by decide) t_48 rfl (by decide +kernel) rfl rfl (Nat.le_of_ble_eq_true rfl) d_TR_init_17 (fun H locs hw => ?_)
  have hw : Xd E [(a, .inr (2, [.ref q5, .int 0, .int 0, .int 0, .null, .null, .null, .null, .null, .null])), (q5, .inr (0, [.ref (u9 0), .ref (u9 1), .int 0])), (u9 0, .inl (E.2.1, 16, .inl (fun _ => 0))), (u9 1, .inl (E.2.1, 16, .inl (fun _ => 0)))] (va_A (rawTR a) s.heap.size) s.heap H locs s := hw
  refine lv_aload_n hx hb d_TR_init_20 rfl (lv_at hl 0 rfl) ?_
  refine lv_iconst (v := 0) hx hb d_TR_init_21 (by decide) ?_
  refine x_put (v := .int 0) (ty := .int) hX 2 in_TR T_TR T_TR_ok n_TR hw 0 rfl rfl 2 (by decide) t_50 rfl (by decide +kernel) rfl rfl (Nat.le_of_ble_eq_true rfl) d_TR_init_22 (fun H locs hw => ?_)
  have hw : Xd E [(a, .inr (2, [.ref q5, .int 0, .int 0, .int 0, .null, .null, .null, .null, .null, .null])), (q5, .inr (0, [.ref (u9 0), .ref (u9 1), .int 0])), (u9 0, .inl (E.2.1, 16, .inl (fun _ => 0))), (u9 1, .inl (E.2.1, 16, .inl (fun _ => 0)))] (va_A (rawTR a) s.heap.size) s.heap H locs s := hw
  refine lv_aload_n hx hb d_TR_init_25 rfl (lv_at hl 0 rfl) ?_
  refine lv_iconst (v := 0) hx hb d_TR_init_26 (by decide) ?_
  refine x_put (v := .int 0) (ty := .int) hX 2 in_TR T_TR T_TR_ok n_TR hw 0 rfl rfl 3 (by decide) t_52 rfl (by decide +kernel) rfl rfl (Nat.le_of_ble_eq_true rfl) d_TR_init_27 (fun H locs hw => ?_)
  have hw : Xd E [(a, .inr (2, [.ref q5, .int 0, .int 0, .int 0, .null, .null, .null, .null, .null, .null])), (q5, .inr (0, [.ref (u9 0), .ref (u9 1), .int 0])), (u9 0, .inl (E.2.1, 16, .inl (fun _ => 0))), (u9 1, .inl (E.2.1, 16, .inl (fun _ => 0)))] (va_A (rawTR a) s.heap.size) s.heap H locs s := hw
  refine lv_aload_n hx hb d_TR_init_30 rfl (lv_at hl 0 rfl) ?_
  refine lv_bipush (v := 15) hx hb d_TR_init_31 (by decide) ?_
  refine x_newi hX t_43 hw 15 (by decide) (by decide) (by decide) (Nat.le_of_ble_eq_true rfl) (Nat.le_of_ble_eq_true rfl) d_TR_init_33 (fun q33 H hw => ?_)
  have hw : Xd E [(a, .inr (2, [.ref q5, .int 0, .int 0, .int 0, .null, .null, .null, .null, .null, .null])), (q5, .inr (0, [.ref (u9 0), .ref (u9 1), .int 0])), (u9 0, .inl (E.2.1, 16, .inl (fun _ => 0))), (u9 1, .inl (E.2.1, 16, .inl (fun _ => 0))), (q33, .inl (E.2.1, 15, .inl (fun _ => 0)))] (va_A (rawTR a) s.heap.size) s.heap H _ s := hw
  refine x_putF (v := .ref q33) (ty := .array .int) hX 2 in_TR T_TR T_TR_ok n_TR hin hw 0 rfl rfl 4 (by decide) t_54 rfl rfl (by decide +kernel) rfl rfl (Nat.le_of_ble_eq_true rfl) d_TR_init_35 (fun H locs hw => ?_)
  have hw : Xd E [(a, .inr (2, [.ref q5, .int 0, .int 0, .int 0, .ref q33, .null, .null, .null, .null, .null])), (q5, .inr (0, [.ref (u9 0), .ref (u9 1), .int 0])), (u9 0, .inl (E.2.1, 16, .inl (fun _ => 0))), (u9 1, .inl (E.2.1, 16, .inl (fun _ => 0))), (q33, .inl (E.2.1, 15, .inl (fun _ => 0)))] (va_A (rawTR a) s.heap.size) s.heap H locs s := hw
  refine lv_aload_n hx hb d_TR_init_38 rfl (lv_at hl 0 rfl) ?_
  refine lv_bipush (v := 15) hx hb d_TR_init_39 (by decide) ?_
  refine x_newi hX t_43 hw 15 (by decide) (by decide) (by decide) (Nat.le_of_ble_eq_true rfl) (Nat.le_of_ble_eq_true rfl) d_TR_init_41 (fun q41 H hw => ?_)
  have hw : Xd E [(a, .inr (2, [.ref q5, .int 0, .int 0, .int 0, .ref q33, .null, .null, .null, .null, .null])), (q5, .inr (0, [.ref (u9 0), .ref (u9 1), .int 0])), (u9 0, .inl (E.2.1, 16, .inl (fun _ => 0))), (u9 1, .inl (E.2.1, 16, .inl (fun _ => 0))), (q33, .inl (E.2.1, 15, .inl (fun _ => 0))), (q41, .inl (E.2.1, 15, .inl (fun _ => 0)))] (va_A (rawTR a) s.heap.size) s.heap H _ s := hw
  refine x_putF (v := .ref q41) (ty := .array .int) hX 2 in_TR T_TR T_TR_ok n_TR hin hw 0 rfl rfl 5 (by decide) t_56 rfl rfl (by decide +kernel) rfl rfl (Nat.le_of_ble_eq_true rfl) d_TR_init_43 (fun H locs hw => ?_)
  have hw : Xd E [(a, .inr (2, [.ref q5, .int 0, .int 0, .int 0, .ref q33, .ref q41, .null, .null, .null, .null])), (q5, .inr (0, [.ref (u9 0), .ref (u9 1), .int 0])), (u9 0, .inl (E.2.1, 16, .inl (fun _ => 0))), (u9 1, .inl (E.2.1, 16, .inl (fun _ => 0))), (q33, .inl (E.2.1, 15, .inl (fun _ => 0))), (q41, .inl (E.2.1, 15, .inl (fun _ => 0)))] (va_A (rawTR a) s.heap.size) s.heap H locs s := hw
  refine lv_aload_n hx hb d_TR_init_46 rfl (lv_at hl 0 rfl) ?_
  refine lv_bipush (v := 15) hx hb d_TR_init_47 (by decide) ?_
  refine x_newi hX t_43 hw 15 (by decide) (by decide) (by decide) (Nat.le_of_ble_eq_true rfl) (Nat.le_of_ble_eq_true rfl) d_TR_init_49 (fun q49 H hw => ?_)
  have hw : Xd E [(a, .inr (2, [.ref q5, .int 0, .int 0, .int 0, .ref q33, .ref q41, .null, .null, .null, .null])), (q5, .inr (0, [.ref (u9 0), .ref (u9 1), .int 0])), (u9 0, .inl (E.2.1, 16, .inl (fun _ => 0))), (u9 1, .inl (E.2.1, 16, .inl (fun _ => 0))), (q33, .inl (E.2.1, 15, .inl (fun _ => 0))), (q41, .inl (E.2.1, 15, .inl (fun _ => 0))), (q49, .inl (E.2.1, 15, .inl (fun _ => 0)))] (va_A (rawTR a) s.heap.size) s.heap H _ s := hw
  refine x_putF (v := .ref q49) (ty := .array .int) hX 2 in_TR T_TR T_TR_ok n_TR hin hw 0 rfl rfl 6 (by decide) t_57 rfl rfl (by decide +kernel) rfl rfl (Nat.le_of_ble_eq_true rfl) d_TR_init_51 (fun H locs hw => ?_)
  have hw : Xd E [(a, .inr (2, [.ref q5, .int 0, .int 0, .int 0, .ref q33, .ref q41, .ref q49, .null, .null, .null])), (q5, .inr (0, [.ref (u9 0), .ref (u9 1), .int 0])), (u9 0, .inl (E.2.1, 16, .inl (fun _ => 0))), (u9 1, .inl (E.2.1, 16, .inl (fun _ => 0))), (q33, .inl (E.2.1, 15, .inl (fun _ => 0))), (q41, .inl (E.2.1, 15, .inl (fun _ => 0))), (q49, .inl (E.2.1, 15, .inl (fun _ => 0)))] (va_A (rawTR a) s.heap.size) s.heap H locs s := hw
  refine lv_aload_n hx hb d_TR_init_54 rfl (lv_at hl 0 rfl) ?_
  refine lv_bipush (v := 15) hx hb d_TR_init_55 (by decide) ?_
  refine x_newi hX t_43 hw 15 (by decide) (by decide) (by decide) (Nat.le_of_ble_eq_true rfl) (Nat.le_of_ble_eq_true rfl) d_TR_init_57 (fun q57 H hw => ?_)
  have hw : Xd E [(a, .inr (2, [.ref q5, .int 0, .int 0, .int 0, .ref q33, .ref q41, .ref q49, .null, .null, .null])), (q5, .inr (0, [.ref (u9 0), .ref (u9 1), .int 0])), (u9 0, .inl (E.2.1, 16, .inl (fun _ => 0))), (u9 1, .inl (E.2.1, 16, .inl (fun _ => 0))), (q33, .inl (E.2.1, 15, .inl (fun _ => 0))), (q41, .inl (E.2.1, 15, .inl (fun _ => 0))), (q49, .inl (E.2.1, 15, .inl (fun _ => 0))), (q57, .inl (E.2.1, 15, .inl (fun _ => 0)))] (va_A (rawTR a) s.heap.size) s.heap H _ s := hw
  refine x_putF (v := .ref q57) (ty := .array .int) hX 2 in_TR T_TR T_TR_ok n_TR hin hw 0 rfl rfl 7 (by decide) t_58 rfl rfl (by decide +kernel) rfl rfl (Nat.le_of_ble_eq_true rfl) d_TR_init_59 (fun H locs hw => ?_)
  have hw : Xd E [(a, .inr (2, [.ref q5, .int 0, .int 0, .int 0, .ref q33, .ref q41, .ref q49, .ref q57, .null, .null])), (q5, .inr (0, [.ref (u9 0), .ref (u9 1), .int 0])), (u9 0, .inl (E.2.1, 16, .inl (fun _ => 0))), (u9 1, .inl (E.2.1, 16, .inl (fun _ => 0))), (q33, .inl (E.2.1, 15, .inl (fun _ => 0))), (q41, .inl (E.2.1, 15, .inl (fun _ => 0))), (q49, .inl (E.2.1, 15, .inl (fun _ => 0))), (q57, .inl (E.2.1, 15, .inl (fun _ => 0)))] (va_A (rawTR a) s.heap.size) s.heap H locs s := hw
  refine lv_aload_n hx hb d_TR_init_62 rfl (lv_at hl 0 rfl) ?_
  refine lv_iconst (v := 2) hx hb d_TR_init_63 (by decide) ?_
  refine x_newj hX t_82 hw 2 (by decide) (by decide) (by decide) (Nat.le_of_ble_eq_true rfl) (Nat.le_of_ble_eq_true rfl) d_TR_init_64 (fun q64 H hw => ?_)
  have hw : Xd E [(a, .inr (2, [.ref q5, .int 0, .int 0, .int 0, .ref q33, .ref q41, .ref q49, .ref q57, .null, .null])), (q5, .inr (0, [.ref (u9 0), .ref (u9 1), .int 0])), (u9 0, .inl (E.2.1, 16, .inl (fun _ => 0))), (u9 1, .inl (E.2.1, 16, .inl (fun _ => 0))), (q33, .inl (E.2.1, 15, .inl (fun _ => 0))), (q41, .inl (E.2.1, 15, .inl (fun _ => 0))), (q49, .inl (E.2.1, 15, .inl (fun _ => 0))), (q57, .inl (E.2.1, 15, .inl (fun _ => 0))), (q64, .inl (E.2.2.1, 2, .inr (.inl (fun _ => 0))))] (va_A (rawTR a) s.heap.size) s.heap H _ s := hw
  refine x_putF (v := .ref q64) (ty := .array .long) hX 2 in_TR T_TR T_TR_ok n_TR hin hw 0 rfl rfl 8 (by decide) t_59 rfl rfl (by decide +kernel) rfl rfl (Nat.le_of_ble_eq_true rfl) d_TR_init_66 (fun H locs hw => ?_)
  have hw : Xd E [(a, .inr (2, [.ref q5, .int 0, .int 0, .int 0, .ref q33, .ref q41, .ref q49, .ref q57, .ref q64, .null])), (q5, .inr (0, [.ref (u9 0), .ref (u9 1), .int 0])), (u9 0, .inl (E.2.1, 16, .inl (fun _ => 0))), (u9 1, .inl (E.2.1, 16, .inl (fun _ => 0))), (q33, .inl (E.2.1, 15, .inl (fun _ => 0))), (q41, .inl (E.2.1, 15, .inl (fun _ => 0))), (q49, .inl (E.2.1, 15, .inl (fun _ => 0))), (q57, .inl (E.2.1, 15, .inl (fun _ => 0))), (q64, .inl (E.2.2.1, 2, .inr (.inl (fun _ => 0))))] (va_A (rawTR a) s.heap.size) s.heap H locs s := hw
  refine lv_aload_n hx hb d_TR_init_69 rfl (lv_at hl 0 rfl) ?_
  refine lv_iconst (v := 4) hx hb d_TR_init_70 (by decide) ?_
  refine lv_bipush (v := 49) hx hb d_TR_init_71 (by decide) ?_
  refine x_mna hX t_82 t_44 hw (Nat.le_of_ble_eq_true rfl) (Nat.le_of_ble_eq_true rfl) d_TR_init_73 (fun q73 r H hw => ?_)
  have hw : Xd E [(a, .inr (2, [.ref q5, .int 0, .int 0, .int 0, .ref q33, .ref q41, .ref q49, .ref q57, .ref q64, .null])), (q5, .inr (0, [.ref (u9 0), .ref (u9 1), .int 0])), (u9 0, .inl (E.2.1, 16, .inl (fun _ => 0))), (u9 1, .inl (E.2.1, 16, .inl (fun _ => 0))), (q33, .inl (E.2.1, 15, .inl (fun _ => 0))), (q41, .inl (E.2.1, 15, .inl (fun _ => 0))), (q49, .inl (E.2.1, 15, .inl (fun _ => 0))), (q57, .inl (E.2.1, 15, .inl (fun _ => 0))), (q64, .inl (E.2.2.1, 2, .inr (.inl (fun _ => 0)))), (q73, .inl (E.2.2.2.2, 4, .inr (.inr (.inr (.inr (fun i => if i < 4 then some (r i) else none)))))), (r 0, .inl (E.2.2.1, 49, .inr (.inl (fun _ => 0)))), (r 1, .inl (E.2.2.1, 49, .inr (.inl (fun _ => 0)))), (r 2, .inl (E.2.2.1, 49, .inr (.inl (fun _ => 0)))), (r 3, .inl (E.2.2.1, 49, .inr (.inl (fun _ => 0))))] (va_A (rawTR a) s.heap.size) s.heap H _ s := hw
  refine x_putF (v := .ref q73) (ty := .array (.array .long)) hX 2 in_TR T_TR T_TR_ok n_TR hin hw 0 rfl rfl 9 (by decide) t_60 rfl rfl (by decide +kernel) rfl rfl (Nat.le_of_ble_eq_true rfl) d_TR_init_77 (fun H locs hw => ?_)
  have hw : Xd E [(a, .inr (2, [.ref q5, .int 0, .int 0, .int 0, .ref q33, .ref q41, .ref q49, .ref q57, .ref q64, .ref q73])), (q5, .inr (0, [.ref (u9 0), .ref (u9 1), .int 0])), (u9 0, .inl (E.2.1, 16, .inl (fun _ => 0))), (u9 1, .inl (E.2.1, 16, .inl (fun _ => 0))), (q33, .inl (E.2.1, 15, .inl (fun _ => 0))), (q41, .inl (E.2.1, 15, .inl (fun _ => 0))), (q49, .inl (E.2.1, 15, .inl (fun _ => 0))), (q57, .inl (E.2.1, 15, .inl (fun _ => 0))), (q64, .inl (E.2.2.1, 2, .inr (.inl (fun _ => 0)))), (q73, .inl (E.2.2.2.2, 4, .inr (.inr (.inr (.inr (fun i => if i < 4 then some (r i) else none)))))), (r 0, .inl (E.2.2.1, 49, .inr (.inl (fun _ => 0)))), (r 1, .inl (E.2.2.1, 49, .inr (.inl (fun _ => 0)))), (r 2, .inl (E.2.2.1, 49, .inr (.inl (fun _ => 0)))), (r 3, .inl (E.2.2.1, 49, .inr (.inl (fun _ => 0))))] (va_A (rawTR a) s.heap.size) s.heap H locs s := hw
  have hw := pcell (e2 := .inl (E.2.2.2.2, 4, .inr (.inr (.inr (.inr (fun j => some (r j))))))) hw (q0 := 9) rfl (fun h => by show H[q73]? = some (vp_cell _ _); rw [← arr_same (f := fun i => if i < 4 then some (r i) else none) (fun j hj => if_pos hj)]; exact h)
  have hw : Xd E [(a, .inr (2, [.ref q5, .int 0, .int 0, .int 0, .ref q33, .ref q41, .ref q49, .ref q57, .ref q64, .ref q73])), (q5, .inr (0, [.ref (u9 0), .ref (u9 1), .int 0])), (u9 0, .inl (E.2.1, 16, .inl (fun _ => 0))), (u9 1, .inl (E.2.1, 16, .inl (fun _ => 0))), (q33, .inl (E.2.1, 15, .inl (fun _ => 0))), (q41, .inl (E.2.1, 15, .inl (fun _ => 0))), (q49, .inl (E.2.1, 15, .inl (fun _ => 0))), (q57, .inl (E.2.1, 15, .inl (fun _ => 0))), (q64, .inl (E.2.2.1, 2, .inr (.inl (fun _ => 0)))), (q73, .inl (E.2.2.2.2, 4, .inr (.inr (.inr (.inr (fun j => some (r j))))))), (r 0, .inl (E.2.2.1, 49, .inr (.inl (fun _ => 0)))), (r 1, .inl (E.2.2.1, 49, .inr (.inl (fun _ => 0)))), (r 2, .inl (E.2.2.1, 49, .inr (.inl (fun _ => 0)))), (r 3, .inl (E.2.2.1, 49, .inr (.inl (fun _ => 0))))] (va_A (rawTR a) s.heap.size) s.heap H _ s := hw
  have eu : (fun j => some (r j)) = (fun j => some ((fun j => if j < 9 then [q5, u9 0, u9 1, q33, q41, q49, q57, q64, q73].getD j 0 else r (j - 9)) (9 + j))) := by funext j; show some (r j) = some (if 9 + j < 9 then _ else r (9 + j - 9)); rw [if_neg (by omega), Nat.add_sub_cancel_left]
  rw [eu] at hw
  exact W.vret hx hb hr (fun t ht hW => ⟨⟨fun j => if j < 9 then [q5, u9 0, u9 1, q33, q41, q49, q57, q64, q73].getD j 0 else r (j - 9), rfl, trivial, by rw [ht]; exact hw.1, hw.2.1⟩, hw.2.2.1.F ht⟩) hw.2.2.1.2.2 d_TR_init_80
set_option maxHeartbeats 4000000 in
set_option maxRecDepth 100000 in
theorem m_MO_init (l : Launch) {E : En} {sz : Nat} (a : Nat) (v1 : Int32) : Met l y_MO_init w_MO_init rm_MO_init (va_Pc [.ref a, .int v1] (Xp E (rawMO a) sz)) (QX E (rawMO a) sz (MOl E a (if v1 < 1 then 1 else if 3 < v1 then 3 else v1))) 8 584 (va_A (rawMO a) sz) := by
  refine Met.ofW (cc := b_MO_init) (maxL := 2) (ret := none) (by decide) rfl ?_
  intro p e s m av below meth c s₁ B hml hv
  obtain ⟨rfl, hXp⟩ := hv
  have hw := Xd.start hXp
  obtain ⟨rfl, -⟩ := hXp
  have hX : CallFix p m c b_MO_init 2 s _ w_MO_init "NibbleTrieModel" := ⟨B.exec, B.bytes, hml, findClass_of_methodNamed B.named, atoms_spec (ws := w_MO_init) B.pre⟩
  have hx := hX.1
  have hb := hX.2.1
  have hown := hX.2.2.2.1
  have hts := hX.2.2.2.2
  have hr := B.returns
  have hlk := B.notSynchronized
  have hin : meth.name = "<init>" := (name_of_methodNamed B.named B.method).1
  have hl := lv_entry ([.ref a, .int v1]) (n := 2) (Nat.le_of_ble_eq_true rfl)
  rw [lg_entry_eq]
  generalize (lg_sl ([.ref a, .int v1]) ++ List.replicate (2 - (lg_sl ([.ref a, .int v1])).length) Slot.unset).toArray = ls at hl ⊢
  have hl : lv_has ls 2 [(0, .ref a), (1, .int v1)] := hl
  refine lv_aload_n hx hb d_MO_init_0 rfl (lv_at hl 0 rfl) ?_
  refine W.objInit hx hb hown (hts _ (List.mem_cons_of_mem _ t_411)) (hts _ (List.mem_cons_of_mem _ t_15)) (hts _ (List.mem_cons_of_mem _ t_obj)) rfl (by rw [hml]; exact hl.1) rfl d_MO_init_1 (Nat.le_of_ble_eq_true rfl) (Nat.le_of_ble_eq_true rfl) ?_
  refine W.eq (g2 := F0 m 4 ls []) rfl ?_
  refine lv_aload_n hx hb d_MO_init_4 rfl (lv_at hl 0 rfl) ?_
  refine lv_bipush (v := 64) hx hb d_MO_init_5 (by decide) ?_
  refine x_newi hX t_43 hw 64 (by decide) (by decide) (by decide) (Nat.le_of_ble_eq_true rfl) (Nat.le_of_ble_eq_true rfl) d_MO_init_7 (fun q7 H hw => ?_)
  have hw : Xd E [(a, .inr (4, [.null, .null, .null, .int 0, .int 0, .null, .null, .null, .null, .int 0, .null, .int 0, .int 0, .long 0, .long 0, .int 0, .int 0])), (q7, .inl (E.2.1, 64, .inl (fun _ => 0)))] (va_A (rawMO a) s.heap.size) s.heap H _ s := hw
  refine x_putF (v := .ref q7) (ty := .array .int) hX 4 in_MO T_MO T_MO_ok n_MO hin hw 0 rfl rfl 0 (by decide) t_412 rfl rfl (by decide +kernel) rfl rfl (Nat.le_of_ble_eq_true rfl) d_MO_init_9 (fun H locs hw => ?_)
  have hw : Xd E [(a, .inr (4, [.ref q7, .null, .null, .int 0, .int 0, .null, .null, .null, .null, .int 0, .null, .int 0, .int 0, .long 0, .long 0, .int 0, .int 0])), (q7, .inl (E.2.1, 64, .inl (fun _ => 0)))] (va_A (rawMO a) s.heap.size) s.heap H locs s := hw
  refine lv_aload_n hx hb d_MO_init_12 rfl (lv_at hl 0 rfl) ?_
  refine lv_bipush (v := 64) hx hb d_MO_init_13 (by decide) ?_
  refine x_newi hX t_43 hw 64 (by decide) (by decide) (by decide) (Nat.le_of_ble_eq_true rfl) (Nat.le_of_ble_eq_true rfl) d_MO_init_15 (fun q15 H hw => ?_)
  have hw : Xd E [(a, .inr (4, [.ref q7, .null, .null, .int 0, .int 0, .null, .null, .null, .null, .int 0, .null, .int 0, .int 0, .long 0, .long 0, .int 0, .int 0])), (q7, .inl (E.2.1, 64, .inl (fun _ => 0))), (q15, .inl (E.2.1, 64, .inl (fun _ => 0)))] (va_A (rawMO a) s.heap.size) s.heap H _ s := hw
  refine x_putF (v := .ref q15) (ty := .array .int) hX 4 in_MO T_MO T_MO_ok n_MO hin hw 0 rfl rfl 1 (by decide) t_413 rfl rfl (by decide +kernel) rfl rfl (Nat.le_of_ble_eq_true rfl) d_MO_init_17 (fun H locs hw => ?_)
  have hw : Xd E [(a, .inr (4, [.ref q7, .ref q15, .null, .int 0, .int 0, .null, .null, .null, .null, .int 0, .null, .int 0, .int 0, .long 0, .long 0, .int 0, .int 0])), (q7, .inl (E.2.1, 64, .inl (fun _ => 0))), (q15, .inl (E.2.1, 64, .inl (fun _ => 0)))] (va_A (rawMO a) s.heap.size) s.heap H locs s := hw
  refine lv_aload_n hx hb d_MO_init_20 rfl (lv_at hl 0 rfl) ?_
  refine lv_iconst (v := 4) hx hb d_MO_init_21 (by decide) ?_
  refine x_newi hX t_43 hw 4 (by decide) (by decide) (by decide) (Nat.le_of_ble_eq_true rfl) (Nat.le_of_ble_eq_true rfl) d_MO_init_22 (fun q22 H hw => ?_)
  have hw : Xd E [(a, .inr (4, [.ref q7, .ref q15, .null, .int 0, .int 0, .null, .null, .null, .null, .int 0, .null, .int 0, .int 0, .long 0, .long 0, .int 0, .int 0])), (q7, .inl (E.2.1, 64, .inl (fun _ => 0))), (q15, .inl (E.2.1, 64, .inl (fun _ => 0))), (q22, .inl (E.2.1, 4, .inl (fun _ => 0)))] (va_A (rawMO a) s.heap.size) s.heap H _ s := hw
  refine x_putF (v := .ref q22) (ty := .array .int) hX 4 in_MO T_MO T_MO_ok n_MO hin hw 0 rfl rfl 2 (by decide) t_414 rfl rfl (by decide +kernel) rfl rfl (Nat.le_of_ble_eq_true rfl) d_MO_init_24 (fun H locs hw => ?_)
  have hw : Xd E [(a, .inr (4, [.ref q7, .ref q15, .ref q22, .int 0, .int 0, .null, .null, .null, .null, .int 0, .null, .int 0, .int 0, .long 0, .long 0, .int 0, .int 0])), (q7, .inl (E.2.1, 64, .inl (fun _ => 0))), (q15, .inl (E.2.1, 64, .inl (fun _ => 0))), (q22, .inl (E.2.1, 4, .inl (fun _ => 0)))] (va_A (rawMO a) s.heap.size) s.heap H locs s := hw
  refine lv_aload_n hx hb d_MO_init_27 rfl (lv_at hl 0 rfl) ?_
  refine lv_bipush (v := 64) hx hb d_MO_init_28 (by decide) ?_
  refine x_newi hX t_43 hw 64 (by decide) (by decide) (by decide) (Nat.le_of_ble_eq_true rfl) (Nat.le_of_ble_eq_true rfl) d_MO_init_30 (fun q30 H hw => ?_)
  have hw : Xd E [(a, .inr (4, [.ref q7, .ref q15, .ref q22, .int 0, .int 0, .null, .null, .null, .null, .int 0, .null, .int 0, .int 0, .long 0, .long 0, .int 0, .int 0])), (q7, .inl (E.2.1, 64, .inl (fun _ => 0))), (q15, .inl (E.2.1, 64, .inl (fun _ => 0))), (q22, .inl (E.2.1, 4, .inl (fun _ => 0))), (q30, .inl (E.2.1, 64, .inl (fun _ => 0)))] (va_A (rawMO a) s.heap.size) s.heap H _ s := hw
  refine x_putF (v := .ref q30) (ty := .array .int) hX 4 in_MO T_MO T_MO_ok n_MO hin hw 0 rfl rfl 5 (by decide) t_417 rfl rfl (by decide +kernel) rfl rfl (Nat.le_of_ble_eq_true rfl) d_MO_init_32 (fun H locs hw => ?_)
  have hw : Xd E [(a, .inr (4, [.ref q7, .ref q15, .ref q22, .int 0, .int 0, .ref q30, .null, .null, .null, .int 0, .null, .int 0, .int 0, .long 0, .long 0, .int 0, .int 0])), (q7, .inl (E.2.1, 64, .inl (fun _ => 0))), (q15, .inl (E.2.1, 64, .inl (fun _ => 0))), (q22, .inl (E.2.1, 4, .inl (fun _ => 0))), (q30, .inl (E.2.1, 64, .inl (fun _ => 0)))] (va_A (rawMO a) s.heap.size) s.heap H locs s := hw
  refine lv_aload_n hx hb d_MO_init_35 rfl (lv_at hl 0 rfl) ?_
  refine lv_bipush (v := 64) hx hb d_MO_init_36 (by decide) ?_
  refine x_newj hX t_82 hw 64 (by decide) (by decide) (by decide) (Nat.le_of_ble_eq_true rfl) (Nat.le_of_ble_eq_true rfl) d_MO_init_38 (fun q38 H hw => ?_)
  have hw : Xd E [(a, .inr (4, [.ref q7, .ref q15, .ref q22, .int 0, .int 0, .ref q30, .null, .null, .null, .int 0, .null, .int 0, .int 0, .long 0, .long 0, .int 0, .int 0])), (q7, .inl (E.2.1, 64, .inl (fun _ => 0))), (q15, .inl (E.2.1, 64, .inl (fun _ => 0))), (q22, .inl (E.2.1, 4, .inl (fun _ => 0))), (q30, .inl (E.2.1, 64, .inl (fun _ => 0))), (q38, .inl (E.2.2.1, 64, .inr (.inl (fun _ => 0))))] (va_A (rawMO a) s.heap.size) s.heap H _ s := hw
  refine x_putF (v := .ref q38) (ty := .array .long) hX 4 in_MO T_MO T_MO_ok n_MO hin hw 0 rfl rfl 6 (by decide) t_418 rfl rfl (by decide +kernel) rfl rfl (Nat.le_of_ble_eq_true rfl) d_MO_init_40 (fun H locs hw => ?_)
  have hw : Xd E [(a, .inr (4, [.ref q7, .ref q15, .ref q22, .int 0, .int 0, .ref q30, .ref q38, .null, .null, .int 0, .null, .int 0, .int 0, .long 0, .long 0, .int 0, .int 0])), (q7, .inl (E.2.1, 64, .inl (fun _ => 0))), (q15, .inl (E.2.1, 64, .inl (fun _ => 0))), (q22, .inl (E.2.1, 4, .inl (fun _ => 0))), (q30, .inl (E.2.1, 64, .inl (fun _ => 0))), (q38, .inl (E.2.2.1, 64, .inr (.inl (fun _ => 0))))] (va_A (rawMO a) s.heap.size) s.heap H locs s := hw
  refine lv_aload_n hx hb d_MO_init_43 rfl (lv_at hl 0 rfl) ?_
  refine lv_iconst (v := 4) hx hb d_MO_init_44 (by decide) ?_
  refine x_newi hX t_43 hw 4 (by decide) (by decide) (by decide) (Nat.le_of_ble_eq_true rfl) (Nat.le_of_ble_eq_true rfl) d_MO_init_45 (fun q45 H hw => ?_)
  have hw : Xd E [(a, .inr (4, [.ref q7, .ref q15, .ref q22, .int 0, .int 0, .ref q30, .ref q38, .null, .null, .int 0, .null, .int 0, .int 0, .long 0, .long 0, .int 0, .int 0])), (q7, .inl (E.2.1, 64, .inl (fun _ => 0))), (q15, .inl (E.2.1, 64, .inl (fun _ => 0))), (q22, .inl (E.2.1, 4, .inl (fun _ => 0))), (q30, .inl (E.2.1, 64, .inl (fun _ => 0))), (q38, .inl (E.2.2.1, 64, .inr (.inl (fun _ => 0)))), (q45, .inl (E.2.1, 4, .inl (fun _ => 0)))] (va_A (rawMO a) s.heap.size) s.heap H _ s := hw
  refine x_putF (v := .ref q45) (ty := .array .int) hX 4 in_MO T_MO T_MO_ok n_MO hin hw 0 rfl rfl 7 (by decide) t_419 rfl rfl (by decide +kernel) rfl rfl (Nat.le_of_ble_eq_true rfl) d_MO_init_47 (fun H locs hw => ?_)
  have hw : Xd E [(a, .inr (4, [.ref q7, .ref q15, .ref q22, .int 0, .int 0, .ref q30, .ref q38, .ref q45, .null, .int 0, .null, .int 0, .int 0, .long 0, .long 0, .int 0, .int 0])), (q7, .inl (E.2.1, 64, .inl (fun _ => 0))), (q15, .inl (E.2.1, 64, .inl (fun _ => 0))), (q22, .inl (E.2.1, 4, .inl (fun _ => 0))), (q30, .inl (E.2.1, 64, .inl (fun _ => 0))), (q38, .inl (E.2.2.1, 64, .inr (.inl (fun _ => 0)))), (q45, .inl (E.2.1, 4, .inl (fun _ => 0)))] (va_A (rawMO a) s.heap.size) s.heap H locs s := hw
  refine lv_aload_n hx hb d_MO_init_50 rfl (lv_at hl 0 rfl) ?_
  refine lv_bipush (v := 64) hx hb d_MO_init_51 (by decide) ?_
  refine x_newj hX t_82 hw 64 (by decide) (by decide) (by decide) (Nat.le_of_ble_eq_true rfl) (Nat.le_of_ble_eq_true rfl) d_MO_init_53 (fun q53 H hw => ?_)
  have hw : Xd E [(a, .inr (4, [.ref q7, .ref q15, .ref q22, .int 0, .int 0, .ref q30, .ref q38, .ref q45, .null, .int 0, .null, .int 0, .int 0, .long 0, .long 0, .int 0, .int 0])), (q7, .inl (E.2.1, 64, .inl (fun _ => 0))), (q15, .inl (E.2.1, 64, .inl (fun _ => 0))), (q22, .inl (E.2.1, 4, .inl (fun _ => 0))), (q30, .inl (E.2.1, 64, .inl (fun _ => 0))), (q38, .inl (E.2.2.1, 64, .inr (.inl (fun _ => 0)))), (q45, .inl (E.2.1, 4, .inl (fun _ => 0))), (q53, .inl (E.2.2.1, 64, .inr (.inl (fun _ => 0))))] (va_A (rawMO a) s.heap.size) s.heap H _ s := hw
  refine x_putF (v := .ref q53) (ty := .array .long) hX 4 in_MO T_MO T_MO_ok n_MO hin hw 0 rfl rfl 8 (by decide) t_420 rfl rfl (by decide +kernel) rfl rfl (Nat.le_of_ble_eq_true rfl) d_MO_init_55 (fun H locs hw => ?_)
  have hw : Xd E [(a, .inr (4, [.ref q7, .ref q15, .ref q22, .int 0, .int 0, .ref q30, .ref q38, .ref q45, .ref q53, .int 0, .null, .int 0, .int 0, .long 0, .long 0, .int 0, .int 0])), (q7, .inl (E.2.1, 64, .inl (fun _ => 0))), (q15, .inl (E.2.1, 64, .inl (fun _ => 0))), (q22, .inl (E.2.1, 4, .inl (fun _ => 0))), (q30, .inl (E.2.1, 64, .inl (fun _ => 0))), (q38, .inl (E.2.2.1, 64, .inr (.inl (fun _ => 0)))), (q45, .inl (E.2.1, 4, .inl (fun _ => 0))), (q53, .inl (E.2.2.1, 64, .inr (.inl (fun _ => 0))))] (va_A (rawMO a) s.heap.size) s.heap H locs s := hw
  refine lv_aload_n hx hb d_MO_init_58 rfl (lv_at hl 0 rfl) ?_
  refine lv_sipush (v := 256) hx hb d_MO_init_59 (by decide) ?_
  refine x_newj hX t_82 hw 256 (by decide) (by decide) (by decide) (Nat.le_of_ble_eq_true rfl) (Nat.le_of_ble_eq_true rfl) d_MO_init_62 (fun q62 H hw => ?_)
  have hw : Xd E [(a, .inr (4, [.ref q7, .ref q15, .ref q22, .int 0, .int 0, .ref q30, .ref q38, .ref q45, .ref q53, .int 0, .null, .int 0, .int 0, .long 0, .long 0, .int 0, .int 0])), (q7, .inl (E.2.1, 64, .inl (fun _ => 0))), (q15, .inl (E.2.1, 64, .inl (fun _ => 0))), (q22, .inl (E.2.1, 4, .inl (fun _ => 0))), (q30, .inl (E.2.1, 64, .inl (fun _ => 0))), (q38, .inl (E.2.2.1, 64, .inr (.inl (fun _ => 0)))), (q45, .inl (E.2.1, 4, .inl (fun _ => 0))), (q53, .inl (E.2.2.1, 64, .inr (.inl (fun _ => 0)))), (q62, .inl (E.2.2.1, 256, .inr (.inl (fun _ => 0))))] (va_A (rawMO a) s.heap.size) s.heap H _ s := hw
  refine x_putF (v := .ref q62) (ty := .array .long) hX 4 in_MO T_MO T_MO_ok n_MO hin hw 0 rfl rfl 10 (by decide) t_422 rfl rfl (by decide +kernel) rfl rfl (Nat.le_of_ble_eq_true rfl) d_MO_init_64 (fun H locs hw => ?_)
  have hw : Xd E [(a, .inr (4, [.ref q7, .ref q15, .ref q22, .int 0, .int 0, .ref q30, .ref q38, .ref q45, .ref q53, .int 0, .ref q62, .int 0, .int 0, .long 0, .long 0, .int 0, .int 0])), (q7, .inl (E.2.1, 64, .inl (fun _ => 0))), (q15, .inl (E.2.1, 64, .inl (fun _ => 0))), (q22, .inl (E.2.1, 4, .inl (fun _ => 0))), (q30, .inl (E.2.1, 64, .inl (fun _ => 0))), (q38, .inl (E.2.2.1, 64, .inr (.inl (fun _ => 0)))), (q45, .inl (E.2.1, 4, .inl (fun _ => 0))), (q53, .inl (E.2.2.1, 64, .inr (.inl (fun _ => 0)))), (q62, .inl (E.2.2.1, 256, .inr (.inl (fun _ => 0))))] (va_A (rawMO a) s.heap.size) s.heap H locs s := hw
  refine lv_aload_n hx hb d_MO_init_67 rfl (lv_at hl 0 rfl) ?_
  refine lv_iload_n hx hb d_MO_init_68 rfl (lv_at hl 1 rfl) ?_
  refine lv_iconst (v := 1) hx hb d_MO_init_69 (by decide) ?_
  refine lv_icmp_ge (tgt := 77) hx hb d_MO_init_70 (by decide) (fun hc => ?_) (fun hc => ?_)
  · refine lv_iload_n hx hb d_MO_init_77 rfl (lv_at hl 1 rfl) ?_
    refine lv_iconst (v := 3) hx hb d_MO_init_78 (by decide) ?_
    refine lv_icmp_le (tgt := 86) hx hb d_MO_init_79 (by decide) (fun hd => ?_) (fun hd => ?_)
    · refine lv_iload_n hx hb d_MO_init_86 rfl (lv_at hl 1 rfl) ?_
      have hval : v1 = (if v1 < 1 then 1 else if 3 < v1 then 3 else v1) := by rw [if_neg (Int32.not_lt.mpr hc), if_neg (Int32.not_lt.mpr hd)]
      refine x_put (v := .int v1) (ty := .int) hX 4 in_MO T_MO T_MO_ok n_MO hw 0 rfl rfl 4 (by decide) t_416 rfl (by decide +kernel) rfl rfl (Nat.le_of_ble_eq_true rfl) d_MO_init_87 (fun H locs hw => ?_)
      have hw : Xd E [(a, .inr (4, [.ref q7, .ref q15, .ref q22, .int 0, .int v1, .ref q30, .ref q38, .ref q45, .ref q53, .int 0, .ref q62, .int 0, .int 0, .long 0, .long 0, .int 0, .int 0])), (q7, .inl (E.2.1, 64, .inl (fun _ => 0))), (q15, .inl (E.2.1, 64, .inl (fun _ => 0))), (q22, .inl (E.2.1, 4, .inl (fun _ => 0))), (q30, .inl (E.2.1, 64, .inl (fun _ => 0))), (q38, .inl (E.2.2.1, 64, .inr (.inl (fun _ => 0)))), (q45, .inl (E.2.1, 4, .inl (fun _ => 0))), (q53, .inl (E.2.2.1, 64, .inr (.inl (fun _ => 0)))), (q62, .inl (E.2.2.1, 256, .inr (.inl (fun _ => 0))))] (va_A (rawMO a) s.heap.size) s.heap H locs s := hw
      rw [show (v1 : Int32) = (if v1 < 1 then 1 else if 3 < v1 then 3 else v1) from hval] at hw
      exact W.vret hx hb hr (fun t ht hW => ⟨⟨fun j => [q7, q15, q22, q30, q38, q45, q53, q62].getD j 0, rfl, trivial, by rw [ht]; exact hw.1, hw.2.1⟩, hw.2.2.1.F ht⟩) hw.2.2.1.2.2 d_MO_init_90
    · refine lv_iconst (v := 3) hx hb d_MO_init_82 (by decide) ?_
      refine lv_goto (tgt := 87) hx hb d_MO_init_83 (by decide) ?_
      have hval : 3 = (if v1 < 1 then 1 else if 3 < v1 then 3 else v1) := by rw [if_neg (Int32.not_lt.mpr hc), if_pos (Int32.not_le.mp hd)]
      refine x_put (v := .int 3) (ty := .int) hX 4 in_MO T_MO T_MO_ok n_MO hw 0 rfl rfl 4 (by decide) t_416 rfl (by decide +kernel) rfl rfl (Nat.le_of_ble_eq_true rfl) d_MO_init_87 (fun H locs hw => ?_)
      have hw : Xd E [(a, .inr (4, [.ref q7, .ref q15, .ref q22, .int 0, .int 3, .ref q30, .ref q38, .ref q45, .ref q53, .int 0, .ref q62, .int 0, .int 0, .long 0, .long 0, .int 0, .int 0])), (q7, .inl (E.2.1, 64, .inl (fun _ => 0))), (q15, .inl (E.2.1, 64, .inl (fun _ => 0))), (q22, .inl (E.2.1, 4, .inl (fun _ => 0))), (q30, .inl (E.2.1, 64, .inl (fun _ => 0))), (q38, .inl (E.2.2.1, 64, .inr (.inl (fun _ => 0)))), (q45, .inl (E.2.1, 4, .inl (fun _ => 0))), (q53, .inl (E.2.2.1, 64, .inr (.inl (fun _ => 0)))), (q62, .inl (E.2.2.1, 256, .inr (.inl (fun _ => 0))))] (va_A (rawMO a) s.heap.size) s.heap H locs s := hw
      rw [show (3 : Int32) = (if v1 < 1 then 1 else if 3 < v1 then 3 else v1) from hval] at hw
      exact W.vret hx hb hr (fun t ht hW => ⟨⟨fun j => [q7, q15, q22, q30, q38, q45, q53, q62].getD j 0, rfl, trivial, by rw [ht]; exact hw.1, hw.2.1⟩, hw.2.2.1.F ht⟩) hw.2.2.1.2.2 d_MO_init_90
  · refine lv_iconst (v := 1) hx hb d_MO_init_73 (by decide) ?_
    refine lv_goto (tgt := 87) hx hb d_MO_init_74 (by decide) ?_
    have hval : 1 = (if v1 < 1 then 1 else if 3 < v1 then 3 else v1) := by rw [if_pos (Int32.not_le.mp hc)]
    refine x_put (v := .int 1) (ty := .int) hX 4 in_MO T_MO T_MO_ok n_MO hw 0 rfl rfl 4 (by decide) t_416 rfl (by decide +kernel) rfl rfl (Nat.le_of_ble_eq_true rfl) d_MO_init_87 (fun H locs hw => ?_)
    have hw : Xd E [(a, .inr (4, [.ref q7, .ref q15, .ref q22, .int 0, .int 1, .ref q30, .ref q38, .ref q45, .ref q53, .int 0, .ref q62, .int 0, .int 0, .long 0, .long 0, .int 0, .int 0])), (q7, .inl (E.2.1, 64, .inl (fun _ => 0))), (q15, .inl (E.2.1, 64, .inl (fun _ => 0))), (q22, .inl (E.2.1, 4, .inl (fun _ => 0))), (q30, .inl (E.2.1, 64, .inl (fun _ => 0))), (q38, .inl (E.2.2.1, 64, .inr (.inl (fun _ => 0)))), (q45, .inl (E.2.1, 4, .inl (fun _ => 0))), (q53, .inl (E.2.2.1, 64, .inr (.inl (fun _ => 0)))), (q62, .inl (E.2.2.1, 256, .inr (.inl (fun _ => 0))))] (va_A (rawMO a) s.heap.size) s.heap H locs s := hw
    rw [show (1 : Int32) = (if v1 < 1 then 1 else if 3 < v1 then 3 else v1) from hval] at hw
    exact W.vret hx hb hr (fun t ht hW => ⟨⟨fun j => [q7, q15, q22, q30, q38, q45, q53, q62].getD j 0, rfl, trivial, by rw [ht]; exact hw.1, hw.2.1⟩, hw.2.2.1.F ht⟩) hw.2.2.1.2.2 d_MO_init_90
