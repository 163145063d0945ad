/-! Math.min, Math.max, System.arraycopy of ints, a trie laid into the array of tries. -/
theorem t_mn : Cond.static Lib.Math.min.name ∈ tG := tg_of (i := 117) (by decide +kernel) (by decide +kernel)
theorem t_mnc : Cond.code Lib.Math.min.name Lib.Math.min.code 2 (some .int) ∈ tG := tg_of (i := 118) (by decide +kernel) (by decide +kernel)
theorem t_mx : Cond.static Lib.Math.max.name ∈ tG := tg_of (i := 120) (by decide +kernel) (by decide +kernel)
theorem t_mxc : Cond.code Lib.Math.max.name Lib.Math.max.code 2 (some .int) ∈ tG := tg_of (i := 121) (by decide +kernel) (by decide +kernel)
theorem t_ma : Cond.initialized "java/lang/Math" ∈ tG := tg_of (i := 5) (by decide +kernel) (by decide +kernel)
theorem t_sy : Cond.initialized "java/lang/System" ∈ tG := tg_of (i := 8) (by decide +kernel) (by decide +kernel)
theorem t_cps : Cond.static arraycopyName ∈ tG := tg_of (i := 288) (by decide +kernel) (by decide +kernel)
theorem t_cpn : Cond.native arraycopyName ∈ tG := tg_of (i := 289) (by decide +kernel) (by decide +kernel)
section JDK
variable {p : Program} {l : Launch} {e : Env} {R : Room} {s : State} {m : MethodId} {args : Array Value} {below : List Frame} {meth : Method} {c : Code} {H : Heap} {locs : List Loc} {Q : State → Prop} {cc : ByteArray} {pc nL : Nat} {ls : Array Slot} {rest : List Value} {E : En} {K G : Nat → Nat} {L : List Nat} {M M2 : Mm} {H0 : Heap} {a a0 : Nat} {own : String} {qc : Cond} {idx : Nat}
theorem r_mmin (hX : CallFix p m c cc nL s args (qc :: tG) own) (hlink : Cond.methodLink own idx Lib.Math.min.name ∈ tG) (hls : ls.size = nL) (hf : 1 ≤ R.frames) (hlo : (rest.map fun v => v.category).sum + 13 ≤ R.locals) {x y : Int32} (hdg : decode cc pc = .ok (.invokestatic idx, 3)) (kk : W p l e R s m args below meth c H locs 0 0 Q (F0 m (pc + 3) ls (.int (imin x y) :: rest))) : W p l e R s m args below meth c H locs 0 0 Q (F0 m pc ls (.int y :: .int x :: rest)) :=
  va_mmin hX.1 hX.2.1 (hX.2.2.1.trans hls.symm) hX.2.2.2.1 (hX.2.2.2.2 _ (List.mem_cons_of_mem _ hlink)) (hX.2.2.2.2 _ (List.mem_cons_of_mem _ t_mn)) (hX.2.2.2.2 _ (List.mem_cons_of_mem _ t_ma)) (hX.2.2.2.2 _ (List.mem_cons_of_mem _ t_mnc)) hf hlo (Nat.zero_le _) (Nat.zero_le _) hdg kk
theorem r_mmax (hX : CallFix p m c cc nL s args (qc :: tG) own) (hlink : Cond.methodLink own idx Lib.Math.max.name ∈ tG) (hls : ls.size = nL) (hf : 1 ≤ R.frames) (hlo : (rest.map fun v => v.category).sum + 13 ≤ R.locals) {x y : Int32} (hdg : decode cc pc = .ok (.invokestatic idx, 3)) (kk : W p l e R s m args below meth c H locs 0 0 Q (F0 m (pc + 3) ls (.int (imax x y) :: rest))) : W p l e R s m args below meth c H locs 0 0 Q (F0 m pc ls (.int y :: .int x :: rest)) :=
  va_mmax hX.1 hX.2.1 (hX.2.2.1.trans hls.symm) hX.2.2.2.1 (hX.2.2.2.2 _ (List.mem_cons_of_mem _ hlink)) (hX.2.2.2.2 _ (List.mem_cons_of_mem _ t_mx)) (hX.2.2.2.2 _ (List.mem_cons_of_mem _ t_ma)) (hX.2.2.2.2 _ (List.mem_cons_of_mem _ t_mxc)) hf hlo (Nat.zero_le _) (Nat.zero_le _) hdg kk
theorem r_copy (hX : CallFix p m c cc nL s args (qc :: tG) own) (hlink : Cond.methodLink own idx arraycopyName ∈ tG) (hls : ls.size = nL) (hf : 1 ≤ R.frames) (hlo : (rest.map fun v => v.category).sum + 18 ≤ R.locals) (hWd : Wd E K G L M H0 H locs s) (ha0 : K a0 = 1) (ha : K a = 1) {sp dp n : Int32} (hc : cpI G M a0 sp a dp n = some M2) (hdg : decode cc pc = .ok (.invokestatic idx, 3))
    (kk : ∀ (H1 : Heap) (locs1 : List Loc), Wd E K G L M2 H0 H1 locs1 s → W p l e R s m args below meth c H1 locs1 0 0 Q (F0 m (pc + 3) ls rest)) : W p l e R s m args below meth c H locs 0 0 Q (F0 m pc ls (.int n :: .int dp :: .ref a :: .int sp :: .ref a0 :: rest)) := by
  unfold cpI at hc
  by_cases hcc : sp < 0 ∨ dp < 0 ∨ n < 0 ∨ G a0 < sp.toNatClampNeg + n.toNatClampNeg ∨ G a < dp.toNatClampNeg + n.toNatClampNeg
  · rw [if_pos hcc] at hc; cases hc
  · rw [if_neg hcc] at hc
    have hc := Option.some.inj hc
    have h0 : K a ≠ 0 := by rw [ha]; decide
    obtain ⟨q0, hq0⟩ := pool hWd (show K a0 ≠ 0 by rw [ha0]; decide)
    obtain ⟨q, hq⟩ := pool hWd h0
    have hqq := hq
    rw [enc1 ha0] at hq0
    rw [enc1 ha] at hq
    refine va_copyi (ty := .int) hX.1 hX.2.1 (hX.2.2.1.trans hls.symm) hX.2.2.2.1 (hX.2.2.2.2 _ (List.mem_cons_of_mem _ hlink)) (hX.2.2.2.2 _ (List.mem_cons_of_mem _ t_cpn)) (hX.2.2.2.2 _ (List.mem_cons_of_mem _ t_cps)) (hX.2.2.2.2 _ (List.mem_cons_of_mem _ t_sy)) hWd.2.2.2.1 hWd.1 hWd.2.1 hWd.2.2.1 q0 q 0 0 hq0 hq rfl rfl rfl (fun z => hcc (Or.inl z)) (fun z => hcc (Or.inr (Or.inl z))) (fun z => hcc (Or.inr (Or.inr (Or.inl z)))) (Nat.not_lt.mp fun z => hcc (Or.inr (Or.inr (Or.inr (Or.inl z))))) (Nat.not_lt.mp fun z => hcc (Or.inr (Or.inr (Or.inr (Or.inr z))))) (fun _ _ => rfl) hf hlo hdg (fun H1 locs1 hP _ hS => kk H1 locs1 (moved hWd hqq h0 ?_ ?_ hP hS))
    · subst hc
      funext b
      by_cases hb : b = a
      · subst hb
        rw [va_up_self, enc1 ha]
        simp
      · rw [va_up_ne _ _ hb]
        refine Eq.symm ?_
        exact enc_eq (M := M) (by funext j; simp [hb]) rfl rfl
    · subst hc
      exact hWd.2.2.2.2.1
theorem inv_sr {j x : Nat} (h : Inv K G L M.2.2) (ha : K a = 3) (hx : K x = 6) : Inv K G L (sr M a j x).2.2 := by
  have ne : ∀ b k : Nat, K b = k → k ≠ 3 → (sr M a j x).2.2 b = M.2.2 b := fun b k hb hk => sr_ne (fun e => hk (by rw [← hb, e, ha]))
  obtain ⟨h1, h2, h3, h4, h5, h6, h7, h8⟩ := h
  refine ⟨h1, fun b hb i hi => ?_, fun b hb i hi => ?_, fun b hb => ?_, fun b hb => ?_, fun b hb => ?_, fun b hb => ?_, fun b hb => ?_⟩
  · show K (if b = a ∧ i = j then x else M.2.2 b i) = 6
    by_cases c : b = a ∧ i = j
    · rw [if_pos c]; exact hx
    · rw [if_neg c]; exact h2 b hb i hi
  · rw [ne b _ hb (by decide)]; exact h3 b hb i hi
  · rw [ne b _ hb (by decide)]; exact h4 b hb
  · rw [ne b _ hb (by decide)]; exact h5 b hb
  · rw [ne b _ hb (by decide)]; exact h6 b hb
  · rw [ne b _ hb (by decide)]; exact h7 b hb
  · rw [ne b _ hb (by decide)]; exact h8 b hb
theorem r_tast (hX : CallFix p m c cc nL s args (qc :: tG) own) (hWd : Wd E K G L M H0 H locs s) (ha : K a = 3) {x : Nat} (hx : K x = 6) {i : Int32} {j : Nat} (hj : ix i (G a) = some j) (hdg : decode cc pc = .ok (.aastore, 1)) (kk : ∀ (H1 : Heap) (locs1 : List Loc), Wd E K G L (sr M a j x) H0 H1 locs1 s → W p l e R s m args below meth c H1 locs1 0 0 Q (F0 m (pc + 1) ls rest)) : W p l e R s m args below meth c H locs 0 0 Q (F0 m pc ls (.ref x :: .int i :: .ref a :: rest)) := by
  have h0 : K a ≠ 0 := by rw [ha]; decide
  obtain ⟨q, hq⟩ := pool hWd h0
  have hqq := hq
  obtain ⟨qx, hqx⟩ := pool hWd (show K x ≠ 0 by rw [hx]; decide)
  rw [enc3 ha] at hq
  rw [enc6 hx] at hqx
  obtain ⟨h1, rfl⟩ := ixE hj
  exact va_astq (r := (R_TR, F_TR, 10)) hX.1 hX.2.1 hWd.2.2.2.1 hWd.1 hWd.2.1 hWd.2.2.1 q 2 qx 2 hq rfl hqx rfl h1 hdg (fun H1 locs1 hP _ hS => kk H1 locs1 (moved hWd hqq h0 (sr_up (by rw [enc3 ha, sr_1])) (inv_sr hWd.2.2.2.2.1 ha hx) hP hS))
end JDK
