/-! Sums over the list of branches: leaves, extensions, uses. -/
theorem sum_perm {α : Type} {f : α → Nat} {a b : List α} (h : a.Perm b) : (a.map f).sum = (b.map f).sum := by
  induction h with
  | nil => rfl
  | cons x _ ih => rw [List.map_cons, List.map_cons, List.sum_cons, List.sum_cons, ih]
  | swap x y l => simp only [List.map_cons, List.sum_cons]; omega
  | trans _ _ h1 h2 => rw [h1, h2]
def HL (n : Nat) (A : List Ent) : Prop := ∀ e ∈ A, e.1.length < n
theorem HL.sub {n : Nat} {A : List Ent} (h : HL (n + 1) A) (c : Nat) : HL n (sub c (brA A)) := by
  have h1 : ∀ e ∈ brA A, e.1.length ≤ n := strip_len (fun e he => by have := h e he; omega)
  intro e he
  cases n with
  | zero => rw [sub_none h1] at he; cases he
  | succ n => have := sub_len h1 e he; omega
theorem HL.zero {A : List Ent} (h : HL 0 A) : A = [] := by
  cases A with
  | nil => rfl
  | cons a r => have := h a List.mem_cons_self; omega
theorem HL.top {L : List Ent} (h : Srt L) : HL RD L := fun e he => by have := (h.1 e he).1; show e.1.length < 8; omega
theorem HL.brA {n : Nat} {A : List Ent} (h : HL n A) : HL n (brA A) := fun e he => by
  obtain ⟨d, hd, rfl⟩ := List.mem_map.mp he
  have := h d hd
  show (d.1.drop (cm A)).length < n
  rw [List.length_drop]
  omega
/-- weights of parts, branch by branch -/
def kw (w : List Ent → Nat) (A : List Ent) : Nat := ((List.range' 0 16).map (fun c => w (sub c A))).sum
theorem lsk_w {w : List Ent → Nat} {p : Nat → Nat} {A : List Ent} {g : Nat → Nat → Nat → List Rec} (hg : ∀ c row i, p c = w (sub c A) + ((g c row i).map (fun r => kw w r.2.1)).sum) : ∀ (n c row i : Nat), ((List.range' c n).map p).sum = ((List.range' c n).map (fun c => w (sub c A))).sum + ((lsk g A n c row i).map (fun r => kw w r.2.1)).sum := by
  intro n
  induction n with
  | zero => intro c row i; rfl
  | succ n ih =>
    intro c row i
    rw [List.range'_succ, List.map_cons, List.sum_cons, List.map_cons, List.sum_cons, lsk, List.map_append, List.sum_append, ih (c + 1) (row + (sub c A).length) (i + (g c row i).length), hg c row i]
    omega
theorem pw_lsr {w : List Ent → Nat} (h0 : w [] = 0) : ∀ (n : Nat) (P : List Nat) (A : List Ent) (fr i : Nat) (par : Int32), HL n A → pw w n A = w A + ((lsr n P A fr i par).map (fun r => kw w r.2.1)).sum := by
  intro n
  induction n with
  | zero => intro P A fr i par h; rw [h.zero, h0]; rfl
  | succ n ih =>
    intro P A fr i par h
    rw [pw, lsr]
    by_cases c : A.length ≤ 1
    · rw [if_pos c, if_pos c]; rfl
    · rw [if_neg c, if_neg c, List.map_cons, List.sum_cons, lsk_w (w := w) (A := brA A) (g := fun c row j => lsr n (brQ P A ++ [c]) (sub c (brA A)) row j (nI i)) (fun c row j => ih _ _ _ _ _ (h.sub c)) 16 0 (fr + (own (brA A)).length) (i + 1)]
      rfl
theorem pw_brs {w : List Ent → Nat} (h0 : w [] = 0) {L : List Ent} (hL : Srt L) : pw w RD L = w L + ((brs L).map (fun r => kw w r.2.1)).sum := pw_lsr h0 RD [] L 0 0 (-1) (HL.top hL)
/-- leaves and values at branches are all rows -/
theorem lsk_l {p : Nat → Nat} {A : List Ent} {g : Nat → Nat → Nat → List Rec} (hg : ∀ c row i, p c + ((g c row i).map (fun r => (own r.2.1).length)).sum = (sub c A).length) : ∀ (n c row i : Nat), ((List.range' c n).map p).sum + ((lsk g A n c row i).map (fun r => (own r.2.1).length)).sum = (restK A c n).length := by
  intro n
  induction n with
  | zero => intro c row i; rfl
  | succ n ih =>
    intro c row i
    rw [List.range'_succ, List.map_cons, List.sum_cons, lsk, List.map_append, List.sum_append, restK_succ, List.length_append, kid_len, ← ih (c + 1) (row + (sub c A).length) (i + (g c row i).length), ← hg c row i]
    omega
theorem pw_lv : ∀ (n : Nat) (P : List Nat) (A : List Ent) (fr i : Nat) (par : Int32), Srt A → HL n A → pw wl n A + ((lsr n P A fr i par).map (fun r => (own r.2.1).length)).sum = A.length := by
  intro n
  induction n with
  | zero => intro P A fr i par _ h; rw [h.zero]; rfl
  | succ n ih =>
    intro P A fr i par hA h
    rw [pw, lsr]
    by_cases c : A.length ≤ 1
    · rw [if_pos c, if_pos c]
      unfold wl
      by_cases d : A.length = 1
      · rw [if_pos d]; simp; omega
      · rw [if_neg d]; simp; omega
    · rw [if_neg c, if_neg c, List.map_cons, List.sum_cons]
      have hs := srt_brA hA
      have k := lsk_l (A := brA A) (p := fun c => pw wl n (sub c (brA A))) (g := fun c row j => lsr n (brQ P A ++ [c]) (sub c (brA A)) row j (nI i)) (fun c row j => ih _ _ _ _ _ (srt_sub hs c) (h.sub c)) 16 0 (fr + (own (brA A)).length) (i + 1)
      have k2 := congrArg List.length (SDK hs)
      rw [List.length_append, brA_len, ← k] at k2
      have k3 : wl A = 0 := by unfold wl; rw [if_neg (by omega)]
      rw [k2, k3]
      show 0 + _ + ((own (brA A)).length + _) = _
      omega
theorem pw_leaves {L : List Ent} (hL : Srt L) : pw wl RD L + ((brs L).map (fun r => (own r.2.1).length)).sum = L.length := pw_lv RD [] L 0 0 (-1) hL (HL.top hL)
/-- a sum over the list by the one above, as a sum over the ones above -/
def top (f : Int32 → List Ent → Nat) (p : Int32) (B : List Ent) : Nat := if B.length ≤ 1 then 0 else f p (brA B)
def kt (f : Int32 → List Ent → Nat) (p : Int32) (A : List Ent) : Nat := ((List.range' 0 16).map (fun c => top f p (sub c A))).sum
def sumT (f : Int32 → List Ent → Nat) : Nat → List Rec → Nat
  | _, [] => 0
  | i, r :: rs => kt f (nI i) r.2.1 + sumT f (i + 1) rs
theorem sumT_app {f : Int32 → List Ent → Nat} : ∀ (a b : List Rec) (i : Nat), sumT f i (a ++ b) = sumT f i a + sumT f (i + a.length) b := by
  intro a
  induction a with
  | nil => intro b i; simp [sumT]
  | cons r a ih =>
    intro b i
    rw [List.cons_append, sumT, sumT, ih, List.length_cons, show i + 1 + a.length = i + (a.length + 1) by omega]
    omega
theorem lsk_t {f : Int32 → List Ent → Nat} {p : Int32} {A : List Ent} {g : Nat → Nat → Nat → List Rec} (hg : ∀ c row i, ((g c row i).map (fun r => f r.2.2.2 r.2.1)).sum = top f p (sub c A) + sumT f i (g c row i)) : ∀ (n c row i : Nat), ((lsk g A n c row i).map (fun r => f r.2.2.2 r.2.1)).sum = ((List.range' c n).map (fun c => top f p (sub c A))).sum + sumT f i (lsk g A n c row i) := by
  intro n
  induction n with
  | zero => intro c row i; rfl
  | succ n ih =>
    intro c row i
    rw [List.range'_succ, List.map_cons, List.sum_cons, lsk, List.map_append, List.sum_append, sumT_app, ih (c + 1) (row + (sub c A).length) (i + (g c row i).length), hg c row i]
    omega
theorem lsr_t {f : Int32 → List Ent → Nat} : ∀ (n : Nat) (P : List Nat) (A : List Ent) (fr i : Nat) (par : Int32), HL n A → ((lsr n P A fr i par).map (fun r => f r.2.2.2 r.2.1)).sum = top f par A + sumT f i (lsr n P A fr i par) := by
  intro n
  induction n with
  | zero => intro P A fr i par h; rw [h.zero]; rfl
  | succ n ih =>
    intro P A fr i par h
    rw [lsr]
    unfold top
    by_cases c : A.length ≤ 1
    · rw [if_pos c, if_pos c]; rfl
    · rw [if_neg c, if_neg c, List.map_cons, List.sum_cons, lsk_t (p := nI i) (fun c row j => ih _ _ _ _ _ (h.sub c)) 16 0 _ _, sumT]
      rfl
theorem brs_t {f : Int32 → List Ent → Nat} {L : List Ent} (hL : Srt L) : ((brs L).map (fun r => f r.2.2.2 r.2.1)).sum = top f (-1) L + sumT f 0 (brs L) := lsr_t RD [] L 0 0 (-1) (HL.top hL)
