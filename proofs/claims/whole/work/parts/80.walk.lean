/-! Walks over the words of a proof: the class's. -/
def cn (x : Int64) : Option Nat := if x = 0 then some 0 else if x = 1 then some 1 else if x = 2 then some 2 else none
theorem cn_some {x : Int64} {c : Nat} (h : cn x = some c) : c ≤ 2 ∧ x = lN c := by
  unfold cn at h
  by_cases c0 : x = 0
  · rw [if_pos c0] at h
    obtain rfl := Option.some.inj h
    exact ⟨by omega, c0.trans (by decide)⟩
  rw [if_neg c0] at h
  by_cases c1 : x = 1
  · rw [if_pos c1] at h
    obtain rfl := Option.some.inj h
    exact ⟨by omega, c1.trans (by decide)⟩
  rw [if_neg c1] at h
  by_cases c2 : x = 2
  · rw [if_pos c2] at h
    obtain rfl := Option.some.inj h
    exact ⟨by omega, c2.trans (by decide)⟩
  rw [if_neg c2] at h
  cases h
theorem cn_of {x : Int64} (h0 : 0 ≤ x.toInt) (h2 : x.toInt ≤ 2) : ∃ c, cn x = some c := by
  unfold cn
  rcases (show x.toInt = 0 ∨ x.toInt = 1 ∨ x.toInt = 2 by omega) with e | e | e
  · have : x = 0 := Int64.toInt_inj.mp (by rw [e]; decide)
    exact ⟨0, if_pos this⟩
  · have : x = 1 := Int64.toInt_inj.mp (by rw [e]; decide)
    subst this
    exact ⟨1, by decide⟩
  · have : x = 2 := Int64.toInt_inj.mp (by rw [e]; decide)
    subst this
    exact ⟨2, by decide⟩
theorem cn_int {x : Int64} {c : Nat} (h : cn x = some c) : x.toInt = c := by
  obtain ⟨h1, h2⟩ := cn_some h
  rw [h2, lN_toInt (by omega)]
def hop (ws : List Int64) : Nat → Nat → Option Nat
  | 0, p => some p
  | k + 1, p => (ws[p]?).bind fun x => (cn x).bind fun c => hop ws k (p + 1 + c)
def scan (ws : List Int64) : Nat → Nat → Option Nat
  | 0, p => if p < ws.length then some p else none
  | k + 1, p => (ws[p]?).bind fun x => (cn x).bind fun c => scan ws k (p + 1 + c)
theorem scan_inv {ws : List Int64} {k p e : Nat} (h : scan ws (k + 1) p = some e) : ∃ x c, ws[p]? = some x ∧ cn x = some c ∧ scan ws k (p + 1 + c) = some e := by
  rw [scan] at h
  obtain ⟨x, h1, h⟩ := Option.bind_eq_some_iff.mp h
  obtain ⟨c, h2, h⟩ := Option.bind_eq_some_iff.mp h
  exact ⟨x, c, h1, h2, h⟩
theorem scan_ge {ws : List Int64} : ∀ (k p e : Nat), scan ws k p = some e → p ≤ e ∧ e < ws.length := by
  intro k
  induction k with
  | zero =>
    intro p e h
    rw [scan] at h
    by_cases c : p < ws.length
    · rw [if_pos c] at h
      obtain rfl := Option.some.inj h
      exact ⟨Nat.le_refl _, c⟩
    · rw [if_neg c] at h; cases h
  | succ k ih =>
    intro p e h
    obtain ⟨x, c, _, _, h⟩ := scan_inv h
    have := ih _ e h
    exact ⟨by omega, this.2⟩
theorem scan_split {ws : List Int64} : ∀ (c r p e : Nat), scan ws (c + r) p = some e → ∃ q, hop ws c p = some q ∧ scan ws r q = some e := by
  intro c
  induction c with
  | zero => intro r p e h; rw [Nat.zero_add] at h; exact ⟨p, rfl, h⟩
  | succ c ih =>
    intro r p e h
    rw [show c + 1 + r = (c + r) + 1 by omega] at h
    obtain ⟨x, d, h1, h2, h⟩ := scan_inv h
    obtain ⟨q, h3, h4⟩ := ih r _ e h
    exact ⟨q, by rw [hop, h1, Option.bind_some, h2, Option.bind_some, h3], h4⟩
def sgm (ws : List Int64) (a e : Nat) : List Int64 := (ws.drop a).take (e + 1 - a)
theorem sgm_len {ws : List Int64} {a e : Nat} (h : e < ws.length) : (sgm ws a e).length = e + 1 - a := by
  unfold sgm
  rw [List.length_take, List.length_drop]
  omega
theorem sgm_at {ws : List Int64} {a e i : Nat} (h : i < e + 1 - a) : (sgm ws a e)[i]? = ws[a + i]? := by
  unfold sgm
  rw [List.getElem?_take_of_lt h, List.getElem?_drop]
/-- where a step leads -/
abbrev Stq : Type := Option (Nat × (Int64 ⊕ (List Nat × (Nat × Nat))))
theorem goinj {a a' c c' d d' : Nat} {p p' : List Nat} (h : (some (a, Sum.inr (p, c, d)) : Stq) = some (a', Sum.inr (p', c', d'))) : a = a' ∧ p = p' ∧ c = c' ∧ d = d' := by
  cases h
  exact ⟨rfl, rfl, rfl, rfl⟩
theorem finj {a a' : Nat} {v v' : Int64} (h : (some (a, Sum.inl v) : Stq) = some (a', Sum.inl v')) : a = a' ∧ v = v' := by
  cases h
  exact ⟨rfl, rfl⟩
def Wok (ws : List Int64) (nx : Nat) (p : List Nat) (rf ct : Nat) : Prop := nb p ∧ ct ≤ 2 ∧ rf + ct ≤ ws.length ∧ nx ≤ ws.length
def BrS (ws : List Int64) (nx : Nat) (p : List Nat) (wt : Int64) (s : Stq) : Prop := (scan ws 16 nx = none ∧ s = none) ∨ (∃ e, scan ws 16 nx = some e ∧ ((dig (sgm ws nx e) ≠ wt ∧ s = none) ∨ (dig (sgm ws nx e) = wt ∧ ((p = [] ∧ ∃ x, ws[e]? = some x ∧ s = some (e + 1, Sum.inl x)) ∨ (∃ c p' q x ct, p = c :: p' ∧ hop ws c nx = some q ∧ ws[q]? = some x ∧ cn x = some ct ∧ s = some (e + 1, Sum.inr (p', q + 1, ct)))))))
theorem br_ex {ws : List Int64} {nx : Nat} {p : List Nat} {wt : Int64} (hp : nb p) : ∃ s, BrS ws nx p wt s ∧ ∀ nx' p' rf ct, s = some (nx', Sum.inr (p', rf, ct)) → Wok ws nx' p' rf ct ∧ p'.length < p.length := by
  cases hs : scan ws 16 nx with
  | none => exact ⟨none, Or.inl ⟨hs, rfl⟩, fun _ _ _ _ h => by cases h⟩
  | some e =>
    obtain ⟨g1, g2⟩ := scan_ge _ _ _ hs
    by_cases c : dig (sgm ws nx e) = wt
    · cases p with
      | nil => exact ⟨some (e + 1, Sum.inl ws[e]), Or.inr ⟨e, hs, Or.inr ⟨c, Or.inl ⟨rfl, _, List.getElem?_eq_getElem g2, rfl⟩⟩⟩, fun _ _ _ _ h => by cases h⟩
      | cons a p =>
        have ha := hp.2 a List.mem_cons_self
        obtain ⟨q, h1, h2⟩ := scan_split a (15 - a + 1) nx e (by rw [show a + (15 - a + 1) = 16 by omega]; exact hs)
        obtain ⟨x, ct, h3, h4, h5⟩ := scan_inv h2
        have g3 := scan_ge _ _ _ h5
        have g4 := (cn_some h4).1
        refine ⟨some (e + 1, Sum.inr (p, q + 1, ct)), Or.inr ⟨e, hs, Or.inr ⟨c, Or.inr ⟨a, p, q, x, ct, rfl, h1, h3, h4, rfl⟩⟩⟩, fun nx' p' rf ct' h => ?_⟩
        obtain ⟨rfl, rfl, rfl, rfl⟩ := goinj h
        have hl := hp.1
        rw [List.length_cons] at hl ⊢
        exact ⟨⟨⟨by omega, fun d hd => hp.2 d (List.mem_cons_of_mem _ hd)⟩, g4, by omega, by omega⟩, by omega⟩
    · exact ⟨none, Or.inr ⟨e, hs, Or.inl ⟨c, rfl⟩⟩, fun _ _ _ _ h => by cases h⟩
def PrS (h t : Int64) (nx : Nat) (p : List Nat) (rf : Nat) (s : Stq) : Prop := (¬ isP (h.toInt / 2) ∧ s = none) ∨ (∃ q, nb q ∧ h.toInt / 2 = (num q : Int) ∧ ((h &&& 1 = 1 ∧ s = some (nx, Sum.inl (if p = q then t else 0))) ∨ (h &&& 1 ≠ 1 ∧ ((q = [] ∧ s = none) ∨ (q ≠ [] ∧ ((¬ q <+: p ∧ s = some (nx, Sum.inl 0)) ∨ (q <+: p ∧ s = some (nx, Sum.inr (p.drop q.length, rf + 1, 1)))))))))
theorem pr_ex {ws : List Int64} {h t : Int64} {nx rf : Nat} {p : List Nat} (hw : Wok ws nx p rf 2) : ∃ s, PrS h t nx p rf s ∧ ∀ nx' p' rf' ct, s = some (nx', Sum.inr (p', rf', ct)) → Wok ws nx' p' rf' ct ∧ p'.length < p.length := by
  by_cases c : isP (h.toInt / 2)
  · have hz : 0 ≤ h.toInt / 2 := by unfold isP at c; omega
    obtain ⟨n, hn⟩ := Int.eq_ofNat_of_zero_le hz
    rw [hn] at c
    obtain ⟨q, hq, e⟩ := path_of c
    have he : h.toInt / 2 = (num q : Int) := by rw [hn, e]
    by_cases d : h &&& 1 = 1
    · exact ⟨_, Or.inr ⟨q, hq, he, Or.inl ⟨d, rfl⟩⟩, fun _ _ _ _ h => by cases h⟩
    · by_cases g : q = []
      · exact ⟨_, Or.inr ⟨q, hq, he, Or.inr ⟨d, Or.inl ⟨g, rfl⟩⟩⟩, fun _ _ _ _ h => by cases h⟩
      · by_cases f : q <+: p
        · refine ⟨_, Or.inr ⟨q, hq, he, Or.inr ⟨d, Or.inr ⟨g, Or.inr ⟨f, rfl⟩⟩⟩⟩, fun nx' p' rf' ct h => ?_⟩
          obtain ⟨rfl, rfl, rfl, rfl⟩ := goinj h
          obtain ⟨w1, w2, w3, w4⟩ := hw
          have := f.length_le
          have : 0 < q.length := List.length_pos_iff.mpr g
          exact ⟨⟨nb_drop w1 _, by omega, by omega, w4⟩, by rw [List.length_drop]; omega⟩
        · exact ⟨_, Or.inr ⟨q, hq, he, Or.inr ⟨d, Or.inr ⟨g, Or.inl ⟨f, rfl⟩⟩⟩⟩, fun _ _ _ _ h => by cases h⟩
  · exact ⟨_, Or.inl ⟨c, rfl⟩, fun _ _ _ _ h => by cases h⟩
theorem sh1 (h : Int64) : (h >>> ((1 : Int32).toInt64 &&& 63)).toInt = h.toInt / 2 := by
  show (h.toBitVec.sshiftRight (((1 : Int32).toInt64 &&& 63).toBitVec.smod 64).toNat).toInt = _
  rw [show (((1 : Int32).toInt64 &&& 63).toBitVec.smod 64).toNat = 1 from by decide, BitVec.toInt_sshiftRight, Int.shiftRight_eq_div_pow]
  rfl
def Pst (G : Nat → Nat) (M : Mm) (B w : Nat) (ws : List Int64) : Prop := gr M B 0 = w ∧ G w = 199 ∧ ws.length ≤ 199 ∧ gi M B 1 = nI ws.length ∧ (∀ (i : Nat) (x : Int64), ws[i]? = some x → gl M w i = x) ∧ w ≠ B
def Vf (B : Nat) (M M2 : Mm) : Prop := M2.2.2 = M.2.2 ∧ (∀ c, c ≠ B → M2.1 c = M.1 c) ∧ M2.1 B 1 = M.1 B 1 ∧ ∀ c, c ≠ B → M2.2.1 c = M.2.1 c
theorem Vf.rf {B : Nat} {M : Mm} : Vf B M M := ⟨rfl, fun _ _ => rfl, rfl, fun _ _ => rfl⟩
theorem Vf.tr {B : Nat} {M M1 M2 : Mm} (h : Vf B M M1) (g : Vf B M1 M2) : Vf B M M2 := ⟨g.1.trans h.1, fun c hc => (g.2.1 c hc).trans (h.2.1 c hc), g.2.2.1.trans h.2.2.1, fun c hc => (g.2.2.2 c hc).trans (h.2.2.2 c hc)⟩
theorem vf1 {B j : Nat} {M2 : Mm} {x : Int32} (hj : j ≠ 1) : Vf B M2 (si M2 B j x) := ⟨rfl, fun c hc => si_ne hc, by
  show gi (si M2 B j x) B 1 = gi M2 B 1
  rw [gi_si, if_neg (fun q => hj q.2.symm)], fun _ _ => rfl⟩
theorem Vf.si {B j : Nat} {M M2 : Mm} {x : Int32} (h : Vf B M M2) (hj : j ≠ 1) : Vf B M (si M2 B j x) := h.tr (vf1 hj)
theorem Vf.sl {B j : Nat} {M M2 : Mm} {x : Int64} (h : Vf B M M2) : Vf B M (sl M2 B j x) := h.tr ⟨rfl, fun _ _ => rfl, rfl, fun c hc => sl_ne hc⟩
section PV
variable {G : Nat → Nat} {M M2 : Mm} {B w : Nat} {ws : List Int64} {ch : Int32} {wt : Int64} {a : Int32}
theorem Pst.vf (h : Pst G M B w ws) (v : Vf B M M2) : Pst G M2 B w ws := by
  obtain ⟨h1, h2, h3, h4, h5, h6⟩ := h
  refine ⟨?_, h2, h3, ?_, fun i x hx => ?_, h6⟩
  · show M2.2.2 B 0 = w
    rw [v.1]; exact h1
  · show M2.1 B 1 = _
    rw [v.2.2.1]; exact h4
  · show M2.2.1 w i = x
    rw [v.2.2.2 w h6]; exact h5 i x hx
theorem has_lt (h : Pst G M B w ws) {e : Nat} (he : e < ws.length) : f_PF_has G B (nI e) M = 1 := by
  have h3 := h.2.2.1
  unfold f_PF_has
  rw [if_neg (nI_pos (by omega)), h.2.2.2.1, if_neg (nI_ge he (by omega))]
theorem has_no (h : Pst G M B w ws) {e : Nat} (he : ws.length ≤ e) (h2 : e < 2 ^ 31) : f_PF_has G B (nI e) M = 0 := by
  unfold f_PF_has
  rw [if_neg (nI_pos (by omega)), h.2.2.2.1, if_pos (nI_le he (by omega))]
theorem hr_eq (h : Pst G M B w ws) {p : Nat} (hp : p < 2 ^ 30) : Ans (f_PF_hasReference G B (nI p) M) (∃ x c, ws[p]? = some x ∧ cn x = some c ∧ p + c < ws.length) := by
  have h3 := h.2.2.1
  unfold f_PF_hasReference
  by_cases c : p < ws.length
  · have hx : ws[p]? = some ws[p] := List.getElem?_eq_getElem c
    rw [has_lt h c, if_neg (by decide), h.1, h.2.1, ix_nI (show p < 199 by omega) (by decide), Option.bind_some, h.2.2.2.2.1 p _ hx]
    by_cases d : lg_cmp ws[p] 0 < 0
    · rw [if_pos d]
      refine Or.inr ⟨rfl, fun ⟨x, c', e1, e2, _⟩ => ?_⟩
      rw [hx] at e1
      obtain rfl := Option.some.inj e1
      rw [lgc_lt, cn_int e2, show (0 : Int64).toInt = 0 from by decide] at d
      omega
    · rw [if_neg d, Option.bind_some, h.2.2.2.2.1 p _ hx]
      by_cases g : 0 < lg_cmp ws[p] 2
      · rw [if_pos g]
        refine Or.inr ⟨rfl, fun ⟨x, c', e1, e2, _⟩ => ?_⟩
        rw [hx] at e1
        obtain rfl := Option.some.inj e1
        have := (cn_some e2).1
        rw [lgc_gt, cn_int e2, show (2 : Int64).toInt = 2 from by decide] at g
        omega
      · rw [if_neg g, Option.bind_some, h.2.2.2.2.1 p _ hx]
        rw [lgc_lt, show (0 : Int64).toInt = 0 from by decide] at d
        rw [lgc_gt, show (2 : Int64).toInt = 2 from by decide] at g
        obtain ⟨c', e2⟩ := cn_of (x := ws[p]) (by omega) (by omega)
        obtain ⟨k1, k2⟩ := cn_some e2
        have es : (nI p).toInt64 + ws[p] = lN (p + c') := by rw [k2, nI_l (by omega), lN_add]
        rw [es, h.2.2.2.1, nI_l (show ws.length < 2 ^ 31 by omega)]
        by_cases f : 0 ≤ lg_cmp (lN (p + c')) (lN ws.length)
        · rw [if_pos f]
          refine Or.inr ⟨rfl, fun ⟨x, c2, e3, e4, e5⟩ => ?_⟩
          rw [hx] at e3
          obtain rfl := Option.some.inj e3
          rw [e2] at e4
          obtain rfl := Option.some.inj e4
          rw [lgc_ge, lN_toInt (by omega), lN_toInt (by omega)] at f
          omega
        · rw [if_neg f]
          rw [lgc_ge, lN_toInt (by omega), lN_toInt (by omega)] at f
          exact Or.inl ⟨rfl, _, c', hx, e2, by omega⟩
  · rw [has_no h (by omega) (by omega), if_pos rfl]
    refine Or.inr ⟨rfl, fun ⟨x, c', e1, _⟩ => ?_⟩
    exact c (List.getElem?_eq_some_iff.mp e1).1
theorem fd_step (h : Pst G M B w ws) {pos v f c : Nat} {x : Int64} (hx : ws[pos]? = some x) (hc : cn x = some c) (hl : pos + c < ws.length) (hv : v < 16) : f_PF_followDigest_33 G (f + 1) B wt a ch (nI pos) (nI v) M = f_PF_followDigest_33 G f B wt a ch (nI (pos + 1 + c)) (nI (v + 1)) (if nI v = ch then si (si M B 5 (nI (pos + 1))) B 6 (nI c) else M) := by
  have h3 := h.2.2.1
  have hp := (List.getElem?_eq_some_iff.mp hx).1
  have h16 : ¬ (16 : Int32) ≤ nI v := nI_ge hv (by decide)
  have ip : ix (nI pos) 199 = some pos := ix_nI (by omega) (by decide)
  have ex : gl M w pos = lN c := (h.2.2.2.2.1 pos x hx).trans (cn_some hc).2
  have ea : nI pos + (1 + nI c) = nI (pos + 1 + c) := by rw [show (1 : Int32) = nI 1 from rfl, nI_add, nI_add, Nat.add_assoc]
  have r0 := h.1
  have g0 := h.2.1
  rw [f_PF_followDigest_33, if_neg h16]
  rcases hr_eq h (show pos < 2 ^ 30 by omega) with ⟨e, _⟩ | ⟨_, e⟩
  · rw [e, Option.bind_some, if_neg (by decide)]
    by_cases d : nI v = ch
    · rw [if_pos d, if_pos d]
      simp only [st, gr_si, gl_si, r0, g0, ip, Option.bind_some, ex, lN_i, ea, nI_1]
    · rw [if_neg d, if_neg d]
      simp only [st, r0, g0, ip, Option.bind_some, ex, lN_i, ea, nI_1]
  · exact absurd ⟨x, c, hx, hc, hl⟩ e
theorem fd_loop : ∀ (k v pos f : Nat) (M : Mm), v + k = 16 → Pst G M B w ws → pos < 1000 → (scan ws k pos = none ∧ ∃ M2, f_PF_followDigest_33 G (k + f + 1) B wt a ch (nI pos) (nI v) M = some M2 ∧ gi M2 B 2 = 2 ∧ Vf B M M2) ∨ (∃ e M1, scan ws k pos = some e ∧ f_PF_followDigest_33 G (k + f + 1) B wt a ch (nI pos) (nI v) M = f_PF_followDigest_33 G (f + 1) B wt a ch (nI e) 16 M1 ∧ Vf B M M1 ∧ gi M1 B 2 = gi M B 2 ∧ gi M1 B 3 = gi M B 3 ∧ gi M1 B 4 = gi M B 4 ∧ (∀ c q x ct, ch = nI c → v ≤ c → c < 16 → hop ws (c - v) pos = some q → ws[q]? = some x → cn x = some ct → gi M1 B 5 = nI (q + 1) ∧ gi M1 B 6 = nI ct) ∧ (∀ c, ch = nI c → c < v → gi M1 B 5 = gi M B 5 ∧ gi M1 B 6 = gi M B 6)) := by
  intro k
  induction k with
  | zero =>
    intro v pos f M hv h hp
    have hv : v = 16 := by omega
    subst hv
    by_cases c : pos < ws.length
    · exact Or.inr ⟨pos, M, by rw [scan, if_pos c], by rw [Nat.zero_add]; rfl, Vf.rf, rfl, rfl, rfl, fun c q x ct _ a1 a2 => by omega, fun c _ _ => ⟨rfl, rfl⟩⟩
    · refine Or.inl ⟨by rw [scan, if_neg c], si M B 2 2, ?_, by rw [gi_si, if_pos ⟨rfl, rfl⟩], Vf.rf.si (by decide)⟩
      have h16 : (16 : Int32) ≤ nI 16 := Int32.le_refl _
      rw [f_PF_followDigest_33, if_pos h16, has_no h (by omega) (by omega), if_pos rfl]
      rfl
  | succ k ih =>
    intro v pos f M hv h hp
    have h3 := h.2.2.1
    have h16 : ¬ (16 : Int32) ≤ nI v := nI_ge (show v < 16 by omega) (by decide)
    by_cases hc : ∃ x c, ws[pos]? = some x ∧ cn x = some c ∧ pos + c < ws.length
    · obtain ⟨x, c, e1, e2, e3⟩ := hc
      have esc : scan ws (k + 1) pos = scan ws k (pos + 1 + c) := by rw [scan, e1, Option.bind_some, e2, Option.bind_some]
      rw [show k + 1 + f + 1 = (k + f + 1) + 1 by omega, fd_step h e1 e2 e3 (show v < 16 by omega), esc]
      have vM : Vf B M (if nI v = ch then si (si M B 5 (nI (pos + 1))) B 6 (nI c) else M) := by
        by_cases d : nI v = ch
        · rw [if_pos d]; exact (Vf.rf.si (by decide)).si (by decide)
        · rw [if_neg d]; exact Vf.rf
      have same : ∀ j, j ≠ 5 → j ≠ 6 → gi (if nI v = ch then si (si M B 5 (nI (pos + 1))) B 6 (nI c) else M) B j = gi M B j := fun j j5 j6 => by
        by_cases d : nI v = ch
        · rw [if_pos d, gi_si, if_neg (fun q => j6 q.2), gi_si, if_neg (fun q => j5 q.2)]
        · rw [if_neg d]
      rcases ih (v + 1) (pos + 1 + c) f _ (by omega) (h.vf vM) (by omega) with ⟨s1, M2, s2, s3, s4⟩ | ⟨e, M1, s1, s2, s3, s4, s5, s6, s7, s8⟩
      · exact Or.inl ⟨s1, M2, s2, s3, vM.tr s4⟩
      · refine Or.inr ⟨e, M1, s1, s2, vM.tr s3, s4.trans (same 2 (by decide) (by decide)), s5.trans (same 3 (by decide) (by decide)), s6.trans (same 4 (by decide) (by decide)), fun c0 q y ct hch a1 a2 hh hq hct => ?_, fun c0 hch a1 => ?_⟩
        · by_cases d : c0 = v
          · subst d
            rw [Nat.sub_self, hop] at hh
            obtain rfl := Option.some.inj hh
            rw [e1] at hq
            obtain rfl := Option.some.inj hq
            rw [e2] at hct
            obtain rfl := Option.some.inj hct
            obtain ⟨t5, t6⟩ := s8 c0 hch (by omega)
            rw [t5, t6, if_pos hch.symm, gi_si, if_neg (fun q => by have := q.2; omega), gi_si, if_pos ⟨rfl, rfl⟩, gi_si, if_pos ⟨rfl, rfl⟩]
            exact ⟨rfl, rfl⟩
          · rw [show c0 - v = (c0 - (v + 1)) + 1 by omega, hop, e1, Option.bind_some, e2, Option.bind_some] at hh
            exact s7 c0 q y ct hch (by omega) a2 hh hq hct
        · obtain ⟨t5, t6⟩ := s8 c0 hch (by omega)
          have d : ¬ nI v = ch := by
            rw [hch]
            intro z
            have := (nI_eq (by omega) (by omega)).mp z
            omega
          rw [if_neg d] at t5 t6
          exact ⟨t5, t6⟩
    · refine Or.inl ⟨?_, si M B 2 2, ?_, by rw [gi_si, if_pos ⟨rfl, rfl⟩], Vf.rf.si (by decide)⟩
      · cases hs : scan ws (k + 1) pos with
        | none => rfl
        | some e =>
          obtain ⟨x, c, e1, e2, e3⟩ := scan_inv hs
          have := scan_ge _ _ _ e3
          exact absurd ⟨x, c, e1, e2, by omega⟩ hc
      · rw [show k + 1 + f + 1 = (k + f + 1) + 1 by omega, f_PF_followDigest_33, if_neg h16]
        rcases hr_eq h (show pos < 2 ^ 30 by omega) with ⟨_, e⟩ | ⟨e, _⟩
        · exact absurd e hc
        · rw [e, Option.bind_some, if_pos rfl]
          rfl
theorem fd_end (h : Pst G M B w ws) {e nx f : Nat} (he : e < ws.length) (hn : nx ≤ e) : f_PF_followDigest_33 G (f + 1) B wt (nI nx) ch (nI e) 16 M = if dig (sgm ws nx e) = wt then (if ch = -1 then some (f_PF_end G B (gl M w e) (si M B 3 (nI (e + 1)))) else some (si (si M B 3 (nI (e + 1))) B 4 (f_PA_without (gi M B 4) 1))) else some (si M B 2 2) := by
  have h3 := h.2.2.1
  have h16 : (16 : Int32) ≤ 16 := Int32.le_refl _
  have hl := sgm_len (a := nx) he
  have hd := digest_eq (G := G) (M := M) (w := w) (s := nx) (ws := sgm ws nx e) (by rw [hl, h.2.1]; omega) (by rw [h.2.1]; decide) (by rw [hl]; omega) (fun i hi => by
    rw [hl] at hi
    have e1 := sgm_at (ws := ws) (a := nx) (e := e) (i := i) (by omega)
    have e2 : ws[nx + i]? = some ((sgm ws nx e)[i]'(by rw [hl]; omega)) := by rw [← e1, List.getElem?_eq_getElem (by rw [hl]; omega)]
    exact h.2.2.2.2.1 _ _ e2)
  rw [hl] at hd
  rw [f_PF_followDigest_33, if_pos h16, has_lt h he, if_neg (by decide), nI_1, nI_sub' (show nx ≤ e + 1 by omega), h.1, hd, Option.bind_some]
  by_cases c : dig (sgm ws nx e) = wt
  · rw [if_pos (lg_eq.mpr c), if_pos c]
    simp only [st]
    by_cases d : ch = -1
    · rw [if_pos d, if_pos d, gr_si, h.1, h.2.1, ix_nI (show e < 199 by omega) (by decide), Option.bind_some]
      rfl
    · rw [if_neg d, if_neg d, gi_si, if_neg (fun q => by have := q.2; omega)]
  · rw [if_neg (fun z => c (lg_eq.mp z)), if_neg c]
    rfl
def CW (M : Mm) (B nx : Nat) (p : List Nat) (rf ct : Nat) : Prop := gi M B 2 = 0 ∧ gi M B 3 = nI nx ∧ gi M B 4 = nI (num p) ∧ gi M B 5 = nI rf ∧ gi M B 6 = nI ct
def CPost (M : Mm) (B : Nat) : Stq → Prop
  | none => gi M B 2 = 2
  | some (nx, Sum.inl v) => gi M B 2 = 1 ∧ gi M B 3 = nI nx ∧ gl M B 7 = v
  | some (nx, Sum.inr (p, rf, ct)) => CW M B nx p rf ct
theorem end_post {nx : Nat} {v : Int64} (h : gi M B 3 = nI nx) : CPost (f_PF_end G B v M) B (some (nx, Sum.inl v)) ∧ Vf B M (f_PF_end G B v M) := by
  unfold f_PF_end
  simp only [st]
  refine ⟨⟨?_, ?_, ?_⟩, ((Vf.rf.si (by decide)).sl)⟩
  · rw [gi_sl, gi_si, if_pos ⟨rfl, rfl⟩]
  · rw [gi_sl, gi_si, if_neg (fun q => by have := q.2; omega)]; exact h
  · rw [gl_sl, if_pos ⟨rfl, rfl⟩]
theorem num_one {p : List Nat} (hp : nb p) : nI (num p) = (1 : Int32) ↔ p = [] := num_eqI hp (q := []) ⟨by simp, fun d hd => (by cases hd)⟩
theorem br_class (h : Pst G M B w ws) {nx rf : Nat} {p : List Nat} {s : Stq} (hw : Wok ws nx p rf 1) (hc : CW M B nx p rf 1) (hs : BrS ws nx p wt s) : ∃ M2, f_PF_followDigest G B wt M = some M2 ∧ CPost M2 B s ∧ Vf B M M2 := by
  have h3 := h.2.2.1
  obtain ⟨hp, -, -, hnx⟩ := hw
  have gen : ∀ ch : Int32, (p = [] → ch = -1) → (∀ c p', p = c :: p' → ch = nI c) → ∃ M2, f_PF_followDigest_33 G FU B wt (nI nx) ch (nI nx) 0 M = some M2 ∧ CPost M2 B s ∧ Vf B M M2 := by
    intro ch hc0 hc1
    have := fd_loop (G := G) (B := B) (w := w) (ws := ws) (wt := wt) (a := nI nx) (ch := ch) 16 0 nx 4079 M rfl h (by omega)
    rw [nI_0] at this
    rcases this with ⟨s1, M2, s2, s3, s4⟩ | ⟨e, M1, s1, s2, s3, s4, s5, s6, s7, s8⟩
    · refine ⟨M2, s2, ?_, s4⟩
      rcases hs with ⟨_, rfl⟩ | ⟨e, z, _⟩
      · exact s3
      · rw [s1] at z; cases z
    · obtain ⟨g1, g2⟩ := scan_ge _ _ _ s1
      have h1 := h.vf s3
      have en := fd_end (wt := wt) (ch := ch) (f := 4079) h1 g2 g1
      have s2 : f_PF_followDigest_33 G FU B wt (nI nx) ch (nI nx) 0 M = _ := s2.trans en
      rcases hs with ⟨z, _⟩ | ⟨e', z, hs⟩
      · rw [s1] at z; cases z
      · rw [s1] at z
        obtain rfl := Option.some.inj z
        rcases hs with ⟨d, rfl⟩ | ⟨d, ⟨rfl, x, hx, rfl⟩ | ⟨c, p', q, x, ct, rfl, k1, k2, k3, rfl⟩⟩
        · rw [if_neg d] at s2
          exact ⟨_, s2, by show gi _ B 2 = 2; rw [gi_si, if_pos ⟨rfl, rfl⟩], s3.tr (Vf.rf.si (by decide))⟩
        · rw [if_pos d, if_pos (hc0 rfl), h1.2.2.2.2.1 e x hx] at s2
          obtain ⟨p1, p2⟩ := end_post (G := G) (M := si M1 B 3 (nI (e + 1))) (B := B) (nx := e + 1) (v := x) (by rw [gi_si, if_pos ⟨rfl, rfl⟩])
          exact ⟨_, s2, p1, s3.tr ((Vf.rf.si (by decide)).tr p2)⟩
        · have ha := hp.2 c List.mem_cons_self
          have hch := hc1 c p' rfl
          have hne : ¬ ch = -1 := by rw [hch]; exact m1_ne (by omega)
          rw [if_pos d, if_neg hne, s6, hc.2.2.1] at s2
          have ew : f_PA_without (nI (num (c :: p'))) 1 = nI (num p') := PA_without_eq (k := 1) hp (by rw [List.length_cons]; omega)
          rw [ew] at s2
          obtain ⟨t5, t6⟩ := s7 c q x ct hch (by omega) ha (by rw [Nat.sub_zero]; exact k1) k2 k3
          refine ⟨_, s2, ⟨?_, ?_, ?_, ?_, ?_⟩, s3.tr ((Vf.rf.si (by decide)).si (by decide))⟩
          · rw [gi_si, if_neg (fun q => by have := q.2; omega), gi_si, if_neg (fun q => by have := q.2; omega), s4]; exact hc.1
          · rw [gi_si, if_neg (fun q => by have := q.2; omega), gi_si, if_pos ⟨rfl, rfl⟩]
          · rw [gi_si, if_pos ⟨rfl, rfl⟩]
          · rw [gi_si, if_neg (fun q => by have := q.2; omega), gi_si, if_neg (fun q => by have := q.2; omega)]; exact t5
          · rw [gi_si, if_neg (fun q => by have := q.2; omega), gi_si, if_neg (fun q => by have := q.2; omega)]; exact t6
  unfold f_PF_followDigest
  rw [hc.2.2.1, hc.2.1]
  by_cases c : p = []
  · rw [if_pos ((num_one hp).mpr c)]
    exact gen (-1) (fun _ => rfl) (fun a b z => by rw [c] at z; cases z)
  · rw [if_neg (fun z => c ((num_one hp).mp z))]
    simp only [st]
    refine gen _ (fun z => absurd z c) (fun a b z => ?_)
    subst z
    exact PA_nibble_eq (k := 0) hp (by rw [List.length_cons]; omega)
theorem pr_class {h0 t0 : Int64} {nx rf : Nat} {p : List Nat} {s : Stq} (hw : Wok ws nx p rf 2) (hc : CW M B nx p rf 2) (hs : PrS h0 t0 nx p rf s) : CPost (f_PF_followPair G B h0 t0 M) B s ∧ Vf B M (f_PF_followPair G B h0 t0 M) := by
  obtain ⟨hp, -, -, hnx⟩ := hw
  have hz := sh1 h0
  unfold f_PF_followPair
  simp only [st]
  rcases hs with ⟨c, rfl⟩ | ⟨q, hq, he, hs⟩
  · have hn : f_PA_isNumber (h0 >>> ((1 : Int32).toInt64 &&& 63)) = 0 := (isNum_eq _).mpr (by rw [hz]; exact c)
    rw [if_pos hn, if_pos hn, ite_self]
    exact ⟨by show gi _ B 2 = 2; rw [gi_si, if_pos ⟨rfl, rfl⟩], Vf.rf.si (by decide)⟩
  · have hn : ¬ f_PA_isNumber (h0 >>> ((1 : Int32).toInt64 &&& 63)) = 0 := fun z => (isNum_eq _).mp z (by rw [hz, he]; exact isP_of hq)
    have hsm := num_sm hq
    have ex : h0 >>> ((1 : Int32).toInt64 &&& 63) = lN (num q) := Int64.toInt_inj.mp (by rw [hz, he, lN_toInt (by omega)])
    rcases hs with ⟨d, rfl⟩ | ⟨d, hs⟩
    · rw [if_pos (lg_eq.mpr d), if_neg hn, if_neg (by decide), if_neg (by decide), hc.2.2.1, ex, lN_i]
      by_cases g : p = q
      · rw [if_pos ((num_eqI hp hq).mpr g), if_pos g]
        exact end_post hc.2.1
      · rw [if_neg (fun z => g ((num_eqI hp hq).mp z)), if_neg g]
        exact end_post hc.2.1
    · rw [if_neg (fun z => d (lg_eq.mp z)), if_neg hn, if_pos trivial, ex, lN_i]
      have h1 : lg_cmp (lN (num q)) 1 = 0 ↔ q = [] := by
        rw [lg_eq, show (1 : Int64) = lN (num []) from by decide, lN_eq (by omega) (by decide)]
        exact ⟨fun z => num_inj' hq.2 (fun d hd => (by cases hd)) z, fun z => by rw [z]⟩
      rcases hs with ⟨g, rfl⟩ | ⟨g, hs⟩
      · rw [if_pos (h1.mpr g)]
        exact ⟨by show gi _ B 2 = 2; rw [gi_si, if_pos ⟨rfl, rfl⟩], Vf.rf.si (by decide)⟩
      · rw [if_neg (fun z => g (h1.mp z)), if_pos trivial, hc.2.2.1, PA_begins_eq hp hq]
        rcases hs with ⟨f, rfl⟩ | ⟨f, rfl⟩
        · rw [if_neg f, if_pos rfl]
          exact end_post hc.2.1
        · rw [if_pos f, if_neg (by decide), PA_length_eq hq, PA_without_eq hp f.length_le, gi_si, if_neg (fun q => by have := q.2; omega), hc.2.2.2.1, nI_1]
          refine ⟨⟨?_, ?_, ?_, ?_, ?_⟩, ((Vf.rf.si (by decide)).si (by decide)).si (by decide)⟩
          · rw [gi_si, if_neg (fun q => by have := q.2; omega), gi_si, if_neg (fun q => by have := q.2; omega), gi_si, if_neg (fun q => by have := q.2; omega)]; exact hc.1
          · rw [gi_si, if_neg (fun q => by have := q.2; omega), gi_si, if_neg (fun q => by have := q.2; omega), gi_si, if_neg (fun q => by have := q.2; omega)]; exact hc.2.1
          · rw [gi_si, if_neg (fun q => by have := q.2; omega), gi_si, if_neg (fun q => by have := q.2; omega), gi_si, if_pos ⟨rfl, rfl⟩]
          · rw [gi_si, if_neg (fun q => by have := q.2; omega), gi_si, if_pos ⟨rfl, rfl⟩]
          · rw [gi_si, if_pos ⟨rfl, rfl⟩]; rfl
end PV
