/-! The class's map: a row comes, a row goes. -/
theorem rows_iff {M : Mm} {A V o : Nat} {es : List Ent} : Rows M A V o es ↔ ∀ (i : Nat) (e : Ent), es[i]? = some e → gi M A (o + i) = nI (num e.1) ∧ gi M V (o + i) = e.2 := by
  constructor
  · intro h i e he
    obtain ⟨hi, rfl⟩ := List.getElem?_eq_some_iff.mp he
    exact h i hi
  · intro h i hi
    exact h i _ (List.getElem?_eq_getElem hi)
/-- only these cells' ints have changed -/
def Only (M M2 : Mm) (cs : List Nat) : Prop := M2.2 = M.2 ∧ ∀ c, c ∉ cs → M2.1 c = M.1 c
theorem Only.rf {M : Mm} {cs : List Nat} : Only M M cs := ⟨rfl, fun _ _ => rfl⟩
theorem Only.si {M M2 : Mm} {cs : List Nat} {a k : Nat} {x : Int32} (h : Only M M2 cs) (ha : a ∈ cs) : Only M (si M2 a k x) cs := ⟨h.1, fun c hc => (si_ne (fun e => hc (by rw [e]; exact ha))).trans (h.2 c hc)⟩
theorem Only.gr {M M2 : Mm} {cs : List Nat} (h : Only M M2 cs) {a j : Nat} : gr M2 a j = gr M a j := by show M2.2.2 a j = M.2.2 a j; rw [h.1]
theorem put_at {l : List Ent} {e : Ent} {r i : Nat} (hr : r ≤ l.length) : (l.take r ++ e :: l.drop r)[i]? = if i < r then l[i]? else if i = r then some e else l[i - 1]? := by
  have ht : (l.take r).length = r := by rw [List.length_take]; omega
  by_cases h1 : i < r
  · rw [if_pos h1, List.getElem?_append_left (by omega), List.getElem?_take_of_lt h1]
  · rw [if_neg h1, List.getElem?_append_right (by omega), ht]
    by_cases h2 : i = r
    · rw [if_pos h2, h2, Nat.sub_self]; rfl
    · rw [if_neg h2, show i - r = (i - r - 1) + 1 by omega, List.getElem?_cons_succ, List.getElem?_drop]
      congr 1
      omega
theorem put_len {l : List Ent} {e : Ent} {r : Nat} (hr : r ≤ l.length) : (l.take r ++ e :: l.drop r).length = l.length + 1 := by
  simp
  omega
/-- where a row of the path p belongs -/
def ipos (p : List Nat) (es : List Ent) : Nat → Nat
  | 0 => 0
  | r + 1 => match es[r]? with
    | some e => if ordn e.1 ≤ ordn p then r + 1 else ipos p es r
    | none => ipos p es r
theorem ipos_le {p : List Nat} {es : List Ent} : ∀ r, ipos p es r ≤ r := by
  intro r
  induction r with
  | zero => exact Nat.le_refl 0
  | succ r ih =>
    unfold ipos
    cases es[r]? with
    | none => simp only; omega
    | some e =>
      simp only
      by_cases h : ordn e.1 ≤ ordn p
      · rw [if_pos h]; omega
      · rw [if_neg h]; omega
section INS
variable {G : Nat → Nat} {a A V : Nat} {es : List Ent} {p : List Nat} {v : Int32}
/-- the rows from r on have moved up by one -/
def Sh (M : Mm) (A V a : Nat) (es : List Ent) (r : Nat) : Prop := (∀ (i : Nat) (e : Ent), es[i]? = some e → i < r → gi M A i = nI (num e.1) ∧ gi M V i = e.2) ∧ (∀ (i : Nat) (e : Ent), es[i]? = some e → r ≤ i → gi M A (i + 1) = nI (num e.1) ∧ gi M V (i + 1) = e.2) ∧ gi M a 2 = nI es.length
theorem ins_fin {M : Mm} {r : Nat} (hA : a ≠ A) (hV : a ≠ V) (hAV : A ≠ V) (hr : r ≤ es.length) (h : Sh M A V a es r) : Rows (si (si (si M A r (nI (num p))) V r v) a 2 (nI es.length + 1)) A V 0 (es.take r ++ (p, v) :: es.drop r) := by
  rw [rows_iff]
  intro i e he
  rw [put_at hr] at he
  have ga : ∀ j, gi (si (si (si M A r (nI (num p))) V r v) a 2 (nI es.length + 1)) A j = if j = r then nI (num p) else gi M A j := fun j => by
    rw [gi_si, if_neg (fun q => hA q.1.symm), gi_si, if_neg (fun q => hAV q.1), gi_si]
    by_cases hj : j = r
    · rw [if_pos ⟨rfl, hj⟩, if_pos hj]
    · rw [if_neg (fun q => hj q.2), if_neg hj]
  have gv : ∀ j, gi (si (si (si M A r (nI (num p))) V r v) a 2 (nI es.length + 1)) V j = if j = r then v else gi M V j := fun j => by
    rw [gi_si, if_neg (fun q => hV q.1.symm), gi_si]
    by_cases hj : j = r
    · rw [if_pos ⟨rfl, hj⟩, if_pos hj]
    · rw [if_neg (fun q => hj q.2), if_neg hj, gi_si, if_neg (fun q => hAV q.1.symm)]
  rw [Nat.zero_add, ga, gv]
  by_cases h1 : i < r
  · rw [if_pos h1] at he
    rw [if_neg (by omega), if_neg (by omega)]
    exact h.1 i e he h1
  · rw [if_neg h1] at he
    by_cases h2 : i = r
    · rw [if_pos h2] at he
      obtain rfl := Option.some.inj he
      rw [if_pos h2, if_pos h2]
      exact ⟨rfl, rfl⟩
    · rw [if_neg h2] at he
      rw [if_neg h2, if_neg h2]
      have := h.2.1 (i - 1) e he (by omega)
      rw [show i - 1 + 1 = i by omega] at this
      exact this
theorem ins_stop {N : Mm} {r f n : Nat} (e0 : gr N a 0 = A) (e1 : gr N a 1 = V) (h2 : G A = 16) (h3 : G V = 16) (hA : a ≠ A) (hV : a ≠ V) (hr : r < 16) (hn : gi N a 2 = nI n) {key : Int32} (hc : r = 0 ∨ ∃ q, r = q + 1 ∧ f_PA_order (gi N A q) ≤ f_PA_order key) : f_PM_insert_15 G (f + 1) a key v (nI r) N = some (si (si (si N A r key) V r v) a 2 (nI n + 1)) := by
  have i2 : ix (nI r) 16 = some r := ix_nI hr (by decide)
  have g : gi (si (si N A r key) V r v) a 2 = nI n := by rw [gi_si, if_neg (fun q => hV q.1), gi_si, if_neg (fun q => hA q.1)]; exact hn
  rw [f_PM_insert_15]
  rcases hc with hc | ⟨q, hq, hc⟩
  · subst hc
    have h0 : nI 0 ≤ (0 : Int32) := by rw [nI_0]; exact Int32.le_refl 0
    rw [if_pos h0, e0, h2, i2, Option.bind_some]
    simp only [st]
    rw [gr_si, e1, h3, i2, Option.bind_some, g]
  · subst hq
    have hg : ¬ nI (q + 1) ≤ (0 : Int32) := nI_nle (by omega) (by omega)
    have i1 : ix (nI q) 16 = some q := ix_nI (by omega) (by decide)
    rw [if_neg hg, nI_pred, e0, h2, i1, Option.bind_some, if_pos hc, i2, Option.bind_some]
    simp only [st]
    rw [gr_si, e1, h3, i2, Option.bind_some, g]
theorem ins_shift {N : Mm} {q f : Nat} (e0 : gr N a 0 = A) (e1 : gr N a 1 = V) (h2 : G A = 16) (h3 : G V = 16) (hr : q + 1 < 16) {key : Int32} (hc : ¬ f_PA_order (gi N A q) ≤ f_PA_order key) : f_PM_insert_15 G (f + 1) a key v (nI (q + 1)) N = f_PM_insert_15 G f a key v (nI q) (si (si N A (q + 1) (gi N A q)) V (q + 1) (gi (si N A (q + 1) (gi N A q)) V q)) := by
  have hg : ¬ nI (q + 1) ≤ (0 : Int32) := nI_nle (by omega) (by omega)
  have i1 : ix (nI q) 16 = some q := ix_nI (by omega) (by decide)
  have i2 : ix (nI (q + 1)) 16 = some (q + 1) := ix_nI hr (by decide)
  rw [f_PM_insert_15, if_neg hg, nI_pred, e0, h2, i1, Option.bind_some, if_neg hc, Option.bind_some, i2, Option.bind_some]
  simp only [st]
  rw [gr_si, e1, h3, i1, Option.bind_some, i2, Option.bind_some, pk_m1]
theorem sh_shift {N : Mm} {q : Nat} (hA : a ≠ A) (hV : a ≠ V) (hAV : A ≠ V) (hs : Sh N A V a es (q + 1)) (hq : q < es.length) : Sh (si (si N A (q + 1) (gi N A q)) V (q + 1) (gi (si N A (q + 1) (gi N A q)) V q)) A V a es q := by
  obtain ⟨e, he⟩ : ∃ e, es[q]? = some e := ⟨_, List.getElem?_eq_getElem hq⟩
  obtain ⟨s1, s2⟩ := hs.1 q e he (by omega)
  have ga : ∀ j, gi (si (si N A (q + 1) (gi N A q)) V (q + 1) (gi (si N A (q + 1) (gi N A q)) V q)) A j = if j = q + 1 then gi N A q else gi N A j := fun j => by
    rw [gi_si, if_neg (fun z => hAV z.1), gi_si]
    by_cases hj : j = q + 1
    · rw [if_pos ⟨rfl, hj⟩, if_pos hj]
    · rw [if_neg (fun z => hj z.2), if_neg hj]
  have gb : ∀ j, gi (si N A (q + 1) (gi N A q)) V j = gi N V j := fun j => by rw [gi_si, if_neg (fun z => hAV z.1.symm)]
  have gv : ∀ j, gi (si (si N A (q + 1) (gi N A q)) V (q + 1) (gi (si N A (q + 1) (gi N A q)) V q)) V j = if j = q + 1 then gi N V q else gi N V j := fun j => by
    rw [gi_si]
    by_cases hj : j = q + 1
    · rw [if_pos ⟨rfl, hj⟩, if_pos hj, gb]
    · rw [if_neg (fun z => hj z.2), if_neg hj, gb]
  refine ⟨fun i d hd hi => ?_, fun i d hd hi => ?_, ?_⟩
  · rw [ga, gv, if_neg (by omega), if_neg (by omega)]
    exact hs.1 i d hd (by omega)
  · rw [ga, gv]
    by_cases hir : i = q
    · subst hir
      have hde : d = e := Option.some.inj (hd.symm.trans he)
      subst hde
      rw [if_pos rfl, if_pos rfl]
      exact ⟨s1, s2⟩
    · rw [if_neg (by omega), if_neg (by omega)]
      exact hs.2.1 i d hd (by omega)
  · rw [gi_si, if_neg (fun z => hV z.1), gi_si, if_neg (fun z => hA z.1)]
    exact hs.2.2
/-- the map behind insert -/
def InsAt (G : Nat → Nat) (M M2 : Mm) (a A V : Nat) (es : List Ent) : Prop := RepM G M2 a es ∧ Only M M2 [a, A, V] ∧ ∀ j, j ≠ 2 → gi M2 a j = gi M a j
theorem ins_done {M N : Mm} {r : Nat} (eA : gr M a 0 = A) (eV : gr M a 1 = V) (h2 : G A = 16) (h3 : G V = 16) (hA : a ≠ A) (hV : a ≠ V) (hAV : A ≠ V) (hn : es.length < 16) (hr : r ≤ es.length) (ho : Only M N [a, A, V]) (hj : ∀ j, j ≠ 2 → gi N a j = gi M a j) (hs : Sh N A V a es r) : InsAt G M (si (si (si N A r (nI (num p))) V r v) a 2 (nI es.length + 1)) a A V (es.take r ++ (p, v) :: es.drop r) := by
  have e0 : gr N a 0 = A := ho.gr.trans eA
  have e1 : gr N a 1 = V := ho.gr.trans eV
  refine ⟨⟨by rw [put_len hr]; omega, ?_, ?_, ?_, ?_⟩, ?_, ?_⟩
  · rw [gr_si, gr_si, gr_si, e0]; exact h2
  · rw [gr_si, gr_si, gr_si, e1]; exact h3
  · rw [gi_si, if_pos ⟨rfl, rfl⟩, put_len hr]; exact nI_1 _
  · rw [gr_si, gr_si, gr_si, gr_si, gr_si, gr_si, e0, e1]
    exact ins_fin hA hV hAV hr hs
  · exact ((ho.si (by simp)).si (by simp)).si (by simp)
  · intro j hj2
    rw [gi_si, if_neg (fun q => hj2 q.2), gi_si, if_neg (fun q => hV q.1), gi_si, if_neg (fun q => hA q.1)]
    exact hj j hj2
theorem ins_go {M : Mm} (eA : gr M a 0 = A) (eV : gr M a 1 = V) (h2 : G A = 16) (h3 : G V = 16) (hA : a ≠ A) (hV : a ≠ V) (hAV : A ≠ V) (hb : ∀ e ∈ es, nb e.1) (hp : nb p) (hn : es.length < 16) : ∀ (r f : Nat) (N : Mm), r ≤ es.length → Only M N [a, A, V] → (∀ j, j ≠ 2 → gi N a j = gi M a j) → Sh N A V a es r → ∃ M2, f_PM_insert_15 G (r + f + 1) a (nI (num p)) v (nI r) N = some M2 ∧ InsAt G M M2 a A V (es.take (ipos p es r) ++ (p, v) :: es.drop (ipos p es r)) := by
  intro r
  induction r with
  | zero =>
    intro f N hr ho hj hs
    exact ⟨_, ins_stop (ho.gr.trans eA) (ho.gr.trans eV) h2 h3 hA hV (by omega) hs.2.2 (Or.inl rfl), ins_done eA eV h2 h3 hA hV hAV hn hr ho hj hs⟩
  | succ r ih =>
    intro f N hr ho hj hs
    obtain ⟨e, he⟩ : ∃ e, es[r]? = some e := ⟨_, List.getElem?_eq_getElem hr⟩
    have hbe := hb e (List.mem_of_getElem? he)
    obtain ⟨s1, s2⟩ := hs.1 r e he (by omega)
    have ho1 : f_PA_order (gi N A r) = nI (ordn e.1) := by rw [s1, PA_order_eq hbe]
    have ei : ipos p es (r + 1) = if ordn e.1 ≤ ordn p then r + 1 else ipos p es r := by rw [ipos, he]
    rw [ei]
    by_cases hc : ordn e.1 ≤ ordn p
    · rw [if_pos hc]
      have hle : f_PA_order (gi N A r) ≤ f_PA_order (nI (num p)) := by rw [ho1, PA_order_eq hp]; exact (nI_leI (ordn_sm hbe) (ordn_sm hp)).mpr hc
      exact ⟨_, ins_stop (ho.gr.trans eA) (ho.gr.trans eV) h2 h3 hA hV (by omega) hs.2.2 (Or.inr ⟨r, rfl, hle⟩), ins_done eA eV h2 h3 hA hV hAV hn hr ho hj hs⟩
    · rw [if_neg hc]
      have hle : ¬ f_PA_order (gi N A r) ≤ f_PA_order (nI (num p)) := by rw [ho1, PA_order_eq hp]; exact fun q => hc ((nI_leI (ordn_sm hbe) (ordn_sm hp)).mp q)
      rw [show r + 1 + f + 1 = (r + f + 1) + 1 by omega, ins_shift (ho.gr.trans eA) (ho.gr.trans eV) h2 h3 (by omega) hle]
      refine ih f _ (by omega) ((ho.si (by simp)).si (by simp)) (fun j hj2 => ?_) (sh_shift hA hV hAV hs hr)
      rw [gi_si, if_neg (fun q => hV q.1), gi_si, if_neg (fun q => hA q.1)]
      exact hj j hj2
theorem insert_eq {M : Mm} (h : RepM G M a es) (eA : gr M a 0 = A) (eV : gr M a 1 = V) (hA : a ≠ A) (hV : a ≠ V) (hAV : A ≠ V) (hb : ∀ e ∈ es, nb e.1) (hp : nb p) (hn : es.length < 16) : ∃ M2, f_PM_insert G a (nI (num p)) v M = some M2 ∧ InsAt G M M2 a A V (es.take (ipos p es es.length) ++ (p, v) :: es.drop (ipos p es es.length)) := by
  obtain ⟨h1, h2, h3, h4, h5⟩ := h
  rw [eA] at h2
  rw [eV] at h3
  rw [eA, eV, rows_iff] at h5
  have hne : ¬ gi M a 2 = 16 := by
    rw [h4]
    intro q
    have := (nI_eq (b := 16) (by omega) (by decide)).mp q
    omega
  unfold f_PM_insert
  rw [if_neg hne, h4, show FU = es.length + (4095 - es.length) + 1 by unfold FU; omega]
  refine ins_go eA eV h2 h3 hA hV hAV hb hp hn es.length _ M (Nat.le_refl _) Only.rf (fun _ _ => rfl) ⟨fun i e he _ => ?_, fun i e he hi => ?_, h4⟩
  · have := h5 i e he
    rw [Nat.zero_add] at this
    exact this
  · have := (List.getElem?_eq_some_iff.mp he).1
    omega
end INS
