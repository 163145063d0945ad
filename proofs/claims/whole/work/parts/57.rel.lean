/-! Relative maps: what stands behind a front. The trie's words as functions of a relative map. -/
def hdk (A : List Ent) : List Nat := (A.head?.map (·.1)).getD []
def hdv (A : List Ent) : Int32 := (A.head?.map (·.2)).getD 0
def ltk (A : List Ent) : List Nat := (A.getLast?.map (·.1)).getD []
def cm (A : List Ent) : Nat := cl (hdk A) (ltk A)
def strip (k : Nat) (A : List Ent) : List Ent := A.map (fun e => (e.1.drop k, e.2))
def rl (P : List Nat) (A : List Ent) : List Ent := A.filterMap (fun e => if P <+: e.1 then some (e.1.drop P.length, e.2) else none)
def sub (c : Nat) (A : List Ent) : List Ent := rl [c] A
def own (A : List Ent) : List Ent := A.filter (fun e => e.1.isEmpty)
def ab (P : List Nat) (A : List Ent) : List Ent := A.map (fun e => (P ++ e.1, e.2))
def tv (A : List Ent) : Int32 := if hdk A = [] then hdv A else 0
def dig (ws : List Int64) : Int64 := ws.foldl f_MO_mixed (nI ws.length).toInt64
def refW (D : List Ent → Int64) (A : List Ent) : List Int64 := if A.length = 0 then [] else if A.length = 1 then [2 * (nI (num (hdk A))).toInt64 + 1, (hdv A).toInt64] else if cm A = 0 then [D A] else [2 * (nI (num ((hdk A).take (cm A)))).toInt64, D (strip (cm A) A)]
def cwd (D : List Ent → Int64) (A : List Ent) (c : Nat) : List Int64 := (nI (refW D (sub c A)).length).toInt64 :: refW D (sub c A)
def encW (D : List Ent → Int64) (A : List Ent) : List Int64 := (List.range 16).flatMap (cwd D A) ++ [(tv A).toInt64]
def dgF : Nat → List Ent → Int64
  | 0, _ => 0
  | n + 1, A => dig (encW (dgF n) A)
def dg (A : List Ent) : Int64 := dgF 5 A
theorem lx_app : ∀ (p a b : List Nat), lx (p ++ a) (p ++ b) ↔ lx a b := by
  intro p
  induction p with
  | nil => intro a b; exact Iff.rfl
  | cons x p ih =>
    intro a b
    rw [List.cons_append, List.cons_append, lx]
    constructor
    · intro h
      rcases h with h | ⟨_, h⟩
      · exact absurd h (Nat.lt_irrefl x)
      · exact (ih a b).mp h
    · intro h; exact Or.inr ⟨rfl, (ih a b).mpr h⟩
theorem mem_le_last {A : List Ent} (h : Srt A) (e : Ent) (he : e ∈ A) : lx e.1 (ltk A) ∨ e.1 = ltk A := by
  have hne : A ≠ [] := fun q => by rw [q] at he; cases he
  have hA := List.dropLast_concat_getLast hne
  have hl : ltk A = (A.getLast hne).1 := by unfold ltk; rw [List.getLast?_eq_some_getLast hne]; rfl
  have hp := h.2
  rw [← hA, List.pairwise_append] at hp
  rw [← hA] at he
  rw [hl]
  rcases List.mem_append.mp he with g | g
  · exact Or.inl (hp.2.2 e g _ List.mem_cons_self)
  · rw [List.mem_singleton.mp g]; exact Or.inr rfl
theorem mem_ge_first {A : List Ent} (h : Srt A) (e : Ent) (he : e ∈ A) : lx (hdk A) e.1 ∨ hdk A = e.1 := by
  cases A with
  | nil => cases he
  | cons a r =>
    rcases List.mem_cons.mp he with rfl | g
    · exact Or.inr rfl
    · exact Or.inl ((List.pairwise_cons.mp h.2).1 e g)
theorem cm_all {A : List Ent} (h : Srt A) (e : Ent) (he : e ∈ A) : cm A ≤ e.1.length ∧ e.1.take (cm A) = (hdk A).take (cm A) := cl_mid _ _ _ (mem_ge_first h e he) (mem_le_last h e he)
theorem hdk_mem {A : List Ent} (h : 1 ≤ A.length) : ∃ e ∈ A, hdk A = e.1 ∧ hdv A = e.2 := by
  cases A with
  | nil => simp at h
  | cons a r => exact ⟨a, List.mem_cons_self, rfl, rfl⟩
theorem ltk_mem {A : List Ent} (h : 1 ≤ A.length) : ∃ e ∈ A, ltk A = e.1 := by
  have hne : A ≠ [] := fun q => by rw [q] at h; simp at h
  exact ⟨A.getLast hne, List.getLast_mem hne, by unfold ltk; rw [List.getLast?_eq_some_getLast hne]; rfl⟩
theorem first_last {A : List Ent} (h : Srt A) (h2 : 2 ≤ A.length) : lx (hdk A) (ltk A) := by
  cases A with
  | nil => simp at h2
  | cons a r =>
    cases r with
    | nil => simp at h2
    | cons b r =>
      have h1 := (List.pairwise_cons.mp h.2).1 b List.mem_cons_self
      rcases mem_le_last h b (by simp) with g | g
      · exact lx_trans _ _ _ h1 g
      · rw [← g]; exact h1
theorem cm_lt {A : List Ent} (h : Srt A) (h2 : 2 ≤ A.length) {m : Nat} (hm : ∀ e ∈ A, e.1.length ≤ m) : cm A < m := by
  have hl := cl_le (hdk A) (ltk A)
  obtain ⟨e, he, e1, -⟩ := hdk_mem (A := A) (by omega)
  obtain ⟨f, hf, f1⟩ := ltk_mem (A := A) (by omega)
  have m1 := hm e he
  have m2 := hm f hf
  have key := cm_all h f hf
  unfold cm at key ⊢
  rcases Nat.lt_or_ge (cl (hdk A) (ltk A)) m with q | q
  · exact q
  · exfalso
    have n1 : (hdk A).length ≤ m := by rw [e1]; exact m1
    have n2 : (ltk A).length ≤ m := by rw [f1]; exact m2
    have n3 : (ltk A).length = f.1.length := by rw [f1]
    have c1 : (hdk A).length = cl (hdk A) (ltk A) := by omega
    have c2 : f.1.length = cl (hdk A) (ltk A) := by omega
    have hlx := first_last h h2
    rw [List.take_of_length_le (by omega), List.take_of_length_le (by omega)] at key
    rw [f1, key.2] at hlx
    exact lx_irrefl _ hlx
theorem cm_max {A : List Ent} {k : Nat} {p : List Nat} (h2 : 1 ≤ A.length) (hk : ∀ e ∈ A, k ≤ e.1.length ∧ e.1.take k = p) : k ≤ cm A := by
  obtain ⟨e, he, e1, -⟩ := hdk_mem (A := A) h2
  obtain ⟨f, hf, f1⟩ := ltk_mem (A := A) h2
  unfold cm
  rw [e1, f1]
  exact cl_ge _ _ _ (hk e he).1 (hk f hf).1 ((hk e he).2.trans (hk f hf).2.symm)
theorem srt_strip {A : List Ent} (h : Srt A) {k : Nat} {p : List Nat} (hk : ∀ e ∈ A, k ≤ e.1.length ∧ e.1.take k = p) : Srt (strip k A) := by
  refine ⟨fun e he => ?_, ?_⟩
  · obtain ⟨d, hd, rfl⟩ := List.mem_map.mp he
    have := h.1 d hd
    exact ⟨by rw [List.length_drop]; have := this.1; omega, fun x hx => this.2 x (List.mem_of_mem_drop hx)⟩
  · unfold strip
    rw [List.pairwise_map]
    refine List.Pairwise.imp_of_mem (fun {a b} ha hb hab => ?_) h.2
    have e1 : a.1 = p ++ a.1.drop k := by rw [← (hk a ha).2, List.take_append_drop]
    have e2 : b.1 = p ++ b.1.drop k := by rw [← (hk b hb).2, List.take_append_drop]
    rw [e1, e2] at hab
    exact (lx_app _ _ _).mp hab
theorem srt_strip' {A : List Ent} (h : Srt A) : Srt (strip (cm A) A) := srt_strip h (cm_all h)
theorem pre_split {P p : List Nat} (h : P <+: p) : p = P ++ p.drop P.length := by
  obtain ⟨t, rfl⟩ := h
  rw [List.drop_left]
theorem srt_rl {A : List Ent} (h : Srt A) (P : List Nat) : Srt (rl P A) := by
  have hin : ∀ (e d : Ent), (if P <+: e.1 then some (e.1.drop P.length, e.2) else none) = some d → P <+: e.1 ∧ d = (e.1.drop P.length, e.2) := fun e d q => by
    by_cases c : P <+: e.1
    · rw [if_pos c] at q; exact ⟨c, (Option.some.inj q).symm⟩
    · rw [if_neg c] at q; cases q
  refine ⟨fun e he => ?_, ?_⟩
  · obtain ⟨d, hd, q⟩ := List.mem_filterMap.mp he
    obtain ⟨c, rfl⟩ := hin d e q
    have := h.1 d hd
    exact ⟨by show (d.1.drop P.length).length ≤ 4; rw [List.length_drop]; have := this.1; omega, fun x hx => this.2 x (List.mem_of_mem_drop hx)⟩
  · unfold rl
    rw [List.pairwise_filterMap]
    refine List.Pairwise.imp (fun {a b} hab => ?_) h.2
    intro x hx y hy
    obtain ⟨c1, rfl⟩ := hin a x hx
    obtain ⟨c2, rfl⟩ := hin b y hy
    rw [pre_split c1, pre_split c2] at hab
    exact (lx_app _ _ _).mp hab
theorem srt_sub {A : List Ent} (h : Srt A) (c : Nat) : Srt (sub c A) := srt_rl h [c]
theorem fm_cong {f g : Ent → Option Ent} : ∀ {l : List Ent}, (∀ x ∈ l, f x = g x) → l.filterMap f = l.filterMap g := by
  intro l
  induction l with
  | nil => intro _; rfl
  | cons a l ih =>
    intro h
    rw [List.filterMap_cons, List.filterMap_cons, h a List.mem_cons_self, ih (fun x hx => h x (List.mem_cons_of_mem _ hx))]
theorem rl_nil (L : List Ent) : rl [] L = L := by
  unfold rl
  rw [fm_cong (g := some)]
  · exact List.filterMap_some
  · intro e _
    rw [if_pos List.nil_prefix]
    rfl
theorem rl_app (P K : List Nat) (L : List Ent) : rl (P ++ K) L = rl K (rl P L) := by
  unfold rl
  rw [List.filterMap_filterMap]
  refine fm_cong (fun e _ => ?_)
  by_cases c : P <+: e.1
  · rw [if_pos c]
    show _ = (if K <+: e.1.drop P.length then some ((e.1.drop P.length).drop K.length, e.2) else none)
    have e1 := pre_split c
    have hiff : P ++ K <+: e.1 ↔ K <+: e.1.drop P.length := by
      constructor
      · intro q
        rw [e1] at q
        exact (List.prefix_append_right_inj P).mp q
      · intro q
        rw [e1]
        exact (List.prefix_append_right_inj P).mpr q
    by_cases d : K <+: e.1.drop P.length
    · rw [if_pos (hiff.mpr d), if_pos d, List.drop_drop, List.length_append]
    · rw [if_neg (fun q => d (hiff.mp q)), if_neg d]
  · rw [if_neg c, if_neg (fun q => c ((List.prefix_append P K).trans q))]
    rfl
theorem rl_all {K : List Nat} {A : List Ent} (h : ∀ e ∈ A, K <+: e.1) : rl K A = strip K.length A := by
  unfold rl strip
  rw [← List.filterMap_eq_map]
  refine fm_cong (fun e he => ?_)
  rw [if_pos (h e he)]
  rfl
theorem sub_rl (P : List Nat) (c : Nat) (L : List Ent) : sub c (rl P L) = rl (P ++ [c]) L := (rl_app P [c] L).symm
theorem take_pre {p q : List Nat} {k : Nat} (h : k ≤ p.length) (e : p.take k = q.take k) : q.take k <+: p := by rw [← e]; exact List.take_prefix k p
/-- the branch of a part -/
theorem strip_rl {P : List Nat} {L : List Ent} (h : Srt L) : strip (cm (rl P L)) (rl P L) = rl (P ++ (hdk (rl P L)).take (cm (rl P L))) L := by
  have hs := srt_rl h P
  rw [rl_app, rl_all (fun e he => take_pre (cm_all hs e he).1 (cm_all hs e he).2)]
  congr 1
  by_cases q : 1 ≤ (rl P L).length
  · obtain ⟨e, he, e1, -⟩ := hdk_mem q
    rw [List.length_take, e1]
    have := (cm_all hs e he).1
    omega
  · have : rl P L = [] := List.length_eq_zero_iff.mp (by omega)
    rw [this]
    rfl
theorem sub_len {A : List Ent} {m c : Nat} (h : ∀ e ∈ A, e.1.length ≤ m + 1) : ∀ e ∈ sub c A, e.1.length ≤ m := by
  intro e he
  obtain ⟨d, hd, q⟩ := List.mem_filterMap.mp he
  by_cases c1 : [c] <+: d.1
  · rw [if_pos c1] at q
    rw [← Option.some.inj q]
    have := h d hd
    show (d.1.drop [c].length).length ≤ m
    rw [List.length_drop]
    simp
    omega
  · rw [if_neg c1] at q; cases q
theorem strip_len {A : List Ent} {m k : Nat} (h : ∀ e ∈ A, e.1.length ≤ m) : ∀ e ∈ strip k A, e.1.length ≤ m := by
  intro e he
  obtain ⟨d, hd, rfl⟩ := List.mem_map.mp he
  have := h d hd
  show (d.1.drop k).length ≤ m
  rw [List.length_drop]
  omega
theorem sub_none {A : List Ent} {c : Nat} (h : ∀ e ∈ A, e.1.length ≤ 0) : sub c A = [] := by
  unfold sub rl
  rw [List.filterMap_eq_nil_iff]
  intro e he
  rw [if_neg]
  intro q
  have l1 := q.length_le
  have l2 := h e he
  rw [List.length_singleton] at l1
  omega
theorem refW_cong {D E : List Ent → Int64} {A : List Ent} (h : ∀ k, D (strip k A) = E (strip k A)) : refW D A = refW E A := by
  have h0 : D A = E A := by
    have := h 0
    unfold strip at this
    simpa using this
  unfold refW
  rw [h (cm A), h0]
theorem encW_cong {D E : List Ent → Int64} {A : List Ent} (h : ∀ c k, D (strip k (sub c A)) = E (strip k (sub c A))) : encW D A = encW E A := by
  unfold encW
  congr 1
  have : cwd D A = cwd E A := by
    funext c
    unfold cwd
    rw [refW_cong (h c)]
  rw [this]
theorem encW_flat {D E : List Ent → Int64} {A : List Ent} (h : ∀ e ∈ A, e.1.length ≤ 0) : encW D A = encW E A := by
  unfold encW
  congr 1
  have : cwd D A = cwd E A := by
    funext c
    unfold cwd
    rw [sub_none h]
    rfl
  rw [this]
theorem dgF_fix : ∀ (m n : Nat) (A : List Ent), (∀ e ∈ A, e.1.length ≤ m) → m < n → dgF n A = dgF (m + 1) A := by
  intro m
  induction m with
  | zero =>
    intro n A h hn
    obtain ⟨n, rfl⟩ : ∃ k, n = k + 1 := ⟨n - 1, by omega⟩
    show dig (encW (dgF n) A) = dig (encW (dgF 0) A)
    rw [encW_flat h]
  | succ m ih =>
    intro n A h hn
    obtain ⟨n, rfl⟩ : ∃ k, n = k + 1 := ⟨n - 1, by omega⟩
    show dig (encW (dgF n) A) = dig (encW (dgF (m + 1)) A)
    rw [encW_cong (E := dgF (m + 1))]
    intro c k
    have hl := strip_len (k := k) (sub_len (c := c) h)
    exact ih n _ hl (by omega)
theorem dg_eq {A : List Ent} (h : ∀ e ∈ A, e.1.length ≤ 4) : dg A = dig (encW dg A) := by
  show dig (encW (dgF 4) A) = _
  rw [encW_cong (E := dg)]
  intro c k
  have hl := strip_len (k := k) (sub_len (m := 3) (c := c) h)
  show dgF 4 _ = dgF 5 _
  rw [dgF_fix 3 5 _ hl (by omega)]
theorem srt_len {A : List Ent} (h : Srt A) : ∀ e ∈ A, e.1.length ≤ 4 := fun e he => (h.1 e he).1
/-- a sorted relative map, child by child -/
theorem flat_put {F H : Nat → List Ent} {e : Ent} {x : Nat} (h1 : ∀ c, c < x → F c = [] ∧ H c = []) (h2 : F x = e :: H x) (h3 : ∀ c, x < c → F c = H c) : ∀ n, x < n → (List.range n).flatMap F = e :: (List.range n).flatMap H := by
  intro n
  induction n with
  | zero => intro h; omega
  | succ n ih =>
    intro h
    rw [List.range_succ, List.flatMap_append, List.flatMap_append]
    by_cases c : x < n
    · rw [ih c]
      simp [h3 n c]
    · have hx : x = n := by omega
      subst hx
      have z : ∀ (U : Nat → List Ent), (∀ c, c < x → U c = []) → (List.range x).flatMap U = [] := fun U hU => by
        rw [List.flatMap_eq_nil_iff]
        intro c hc
        exact hU c (List.mem_range.mp hc)
      rw [z F (fun c hc => (h1 c hc).1), z H (fun c hc => (h1 c hc).2)]
      simp [h2]
def kid (A : List Ent) (c : Nat) : List Ent := ab [c] (sub c A)
theorem sub_cons (c : Nat) (e : Ent) (r : List Ent) : sub c (e :: r) = (if [c] <+: e.1 then [(e.1.drop 1, e.2)] else []) ++ sub c r := by
  unfold sub rl
  rw [List.filterMap_cons]
  by_cases h : [c] <+: e.1
  · rw [if_pos h, if_pos h]; rfl
  · rw [if_neg h, if_neg h]; rfl
theorem one_pre {c x : Nat} {q : List Nat} : [c] <+: x :: q ↔ c = x := by
  constructor
  · intro h; exact (List.cons_prefix_cons.mp h).1
  · intro h; rw [h]; exact List.cons_prefix_cons.mpr ⟨rfl, List.nil_prefix⟩
theorem SD : ∀ (A : List Ent), Srt A → A = own A ++ (List.range 16).flatMap (kid A) := by
  intro A
  induction A with
  | nil =>
    intro _
    have : (List.range 16).flatMap (kid []) = [] := by rw [List.flatMap_eq_nil_iff]; intro c _; rfl
    rw [this]
    rfl
  | cons e r ih =>
    intro h
    have hp := List.pairwise_cons.mp h.2
    have hr : Srt r := ⟨fun d hd => h.1 d (List.mem_cons_of_mem _ hd), hp.2⟩
    have hown : own r = [] := by
      unfold own
      rw [List.filter_eq_nil_iff]
      intro d hd q
      have q : d.1 = [] := by simpa using q
      have := hp.1 d hd
      rw [q] at this
      cases he : e.1 with
      | nil => rw [he] at this; exact this
      | cons x p => rw [he] at this; exact this
    have hi := ih hr
    rw [hown, List.nil_append] at hi
    cases he : e.1 with
    | nil =>
      have h1 : own (e :: r) = [e] := by
        unfold own at hown ⊢
        rw [List.filter_cons, if_pos (by rw [he]; rfl), hown]
      have h2 : kid (e :: r) = kid r := by
        funext c
        unfold kid
        rw [sub_cons, if_neg (fun q => by rw [he] at q; have := q.length_le; simp at this)]
        rfl
      rw [h1, h2, ← hi]
      rfl
    | cons x p =>
      have h1 : own (e :: r) = [] := by
        unfold own at hown ⊢
        rw [List.filter_cons, if_neg (by rw [he]; simp), hown]
      have hx : x < 16 := (h.1 e List.mem_cons_self).2 x (by rw [he]; exact List.mem_cons_self)
      have hsm : ∀ c, c < x → sub c r = [] := fun c hc => by
        unfold sub rl
        rw [List.filterMap_eq_nil_iff]
        intro d hd
        rw [if_neg]
        intro q
        have hlx := hp.1 d hd
        rw [he] at hlx
        cases hd1 : d.1 with
        | nil => rw [hd1] at hlx; exact hlx
        | cons y t =>
          rw [hd1] at hlx q
          have := one_pre.mp q
          rcases hlx with g | ⟨g, -⟩ <;> omega
      have fp := flat_put (F := kid (e :: r)) (H := kid r) (e := e) (x := x) (fun c hc => ⟨by
          unfold kid
          rw [sub_cons, hsm c hc, if_neg (fun q => by rw [he] at q; have := one_pre.mp q; omega)]
          rfl, by unfold kid; rw [hsm c hc]; rfl⟩) (by
          unfold kid
          rw [sub_cons, if_pos (by rw [he]; exact one_pre.mpr rfl)]
          show (([x] ++ e.1.drop 1, e.2) :: _) = e :: _
          have : ([x] ++ e.1.drop 1, e.2) = e := by apply Prod.ext; rw [he]; rfl; rfl
          rw [this]
          rfl) (fun c hc => by
          unfold kid
          rw [sub_cons, if_neg (fun q => by rw [he] at q; have := one_pre.mp q; omega)]
          rfl) 16 hx
      rw [h1, List.nil_append, fp, ← hi]
theorem own_eq {A : List Ent} (h : Srt A) : own A = if hdk A = [] ∧ A ≠ [] then [([], hdv A)] else [] := by
  cases A with
  | nil => rfl
  | cons e r =>
    have hp := List.pairwise_cons.mp h.2
    have hr : ∀ d ∈ r, d.1 ≠ [] := fun d hd q => by
      have := hp.1 d hd
      rw [q] at this
      cases he : e.1 with
      | nil => rw [he] at this; exact this
      | cons x p => rw [he] at this; exact this
    have hown : r.filter (fun e => e.1.isEmpty) = [] := by
      rw [List.filter_eq_nil_iff]
      intro d hd q
      exact hr d hd (by simpa using q)
    unfold own
    rw [List.filter_cons, hown]
    by_cases he : e.1 = []
    · rw [if_pos (by rw [he]; rfl), if_pos ⟨he, by simp⟩]
      show [e] = [([], e.2)]
      rw [← he]
    · rw [if_neg (by simpa using he), if_neg (fun q => he q.1)]
