/-! The order of the paths: by their nibbles, a path before those that it begins. -/
def lx : List Nat → List Nat → Prop
  | [], [] => False
  | [], _ :: _ => True
  | _ :: _, [] => False
  | a :: p, b :: q => a < b ∨ (a = b ∧ lx p q)
def ordn (p : List Nat) : Nat := num p * 16 ^ (4 - p.length) * 8 + p.length
theorem pw_split {n k : Nat} (h : k ≤ n) : 16 ^ k * 16 ^ (n - k) = 16 ^ n := by rw [← Nat.pow_add]; congr 1; omega
theorem ord_top {p : List Nat} (h : nb p) : num p * 16 ^ (4 - p.length) = 65536 + vl p * 16 ^ (4 - p.length) ∧ vl p * 16 ^ (4 - p.length) < 65536 := by
  have hp : 0 < 16 ^ (4 - p.length) := Nat.pow_pos (by decide)
  have e : 16 ^ p.length * 16 ^ (4 - p.length) = 65536 := pw_split h.1
  refine ⟨by rw [num_eq, Nat.add_mul, e], ?_⟩
  rw [← e]
  exact Nat.mul_lt_mul_of_pos_right (vl_lt p h.2) hp
theorem PA_order_eq {p : List Nat} (h : nb p) : f_PA_order (nI (num p)) = nI (ordn p) := by
  have hs := num_sm h
  have ht := ord_top h
  have hl := h.1
  unfold f_PA_order
  rw [PA_length_eq h, show (4 : Int32) - nI p.length = nI (4 - p.length) from pk_sub (a := 4) hl, sh_ln hs.2 (by omega) (by omega)]
  have e1 : nI (num p * 16 ^ (4 - p.length)) <<< ((3 : Int32) &&& 31) = nI (num p * 16 ^ (4 - p.length) * 2 ^ 3) := pk_shlN _ 3 (by decide) (by omega)
  rw [e1, or_nat]
  congr 1
  unfold ordn
  have := Nat.two_pow_add_eq_or_of_lt (i := 3) (b := p.length) (by omega) (num p * 16 ^ (4 - p.length))
  rw [Nat.mul_comm (2 ^ 3)] at this
  exact this.symm
theorem vl_cons (a : Nat) (p : List Nat) : vl (a :: p) = a * 16 ^ p.length + vl p := by
  show List.foldl (fun a d => 16 * a + d) (16 * 0 + a) p = _
  rw [fold_vl, Nat.mul_zero, Nat.zero_add]
theorem lx_iff : ∀ (n : Nat) (p q : List Nat), p.length ≤ n → q.length ≤ n → (∀ d ∈ p, d < 16) → (∀ d ∈ q, d < 16) → ((vl p * 16 ^ (n - p.length) < vl q * 16 ^ (n - q.length) ∨ (vl p * 16 ^ (n - p.length) = vl q * 16 ^ (n - q.length) ∧ p.length < q.length)) ↔ lx p q) := by
  intro n
  induction n with
  | zero =>
    intro p q hp hq _ _
    have e1 := List.length_eq_zero_iff.mp (Nat.le_zero.mp hp)
    have e2 := List.length_eq_zero_iff.mp (Nat.le_zero.mp hq)
    subst e1; subst e2
    simp [vl, lx]
  | succ n ih =>
    intro p q hp hq dp dq
    cases p with
    | nil =>
      cases q with
      | nil => simp [vl, lx]
      | cons b q =>
        simp only [lx, iff_true]
        have : vl [] = 0 := rfl
        rw [this, Nat.zero_mul]
        by_cases h : vl (b :: q) * 16 ^ (n + 1 - (b :: q).length) = 0
        · exact Or.inr ⟨h.symm, by simp⟩
        · exact Or.inl (by omega)
    | cons a p =>
      cases q with
      | nil =>
        simp only [lx, iff_false]
        have : vl [] = 0 := rfl
        rw [this, Nat.zero_mul]
        simp
      | cons b q =>
        have hp' : p.length ≤ n := by simpa using hp
        have hq' : q.length ≤ n := by simpa using hq
        have i := ih p q hp' hq' (fun d hd => dp d (List.mem_cons_of_mem _ hd)) (fun d hd => dq d (List.mem_cons_of_mem _ hd))
        have key : ∀ (c : Nat) (r : List Nat), r.length ≤ n → (∀ d ∈ r, d < 16) → vl (c :: r) * 16 ^ (n + 1 - (c :: r).length) = c * 16 ^ n + vl r * 16 ^ (n - r.length) ∧ vl r * 16 ^ (n - r.length) < 16 ^ n := by
          intro c r hr dr
          have e : 16 ^ r.length * 16 ^ (n - r.length) = 16 ^ n := pw_split hr
          have e2 : n + 1 - (c :: r).length = n - r.length := by simp
          refine ⟨by rw [e2, vl_cons, Nat.add_mul, Nat.mul_assoc, e], ?_⟩
          rw [← e]
          exact Nat.mul_lt_mul_of_pos_right (vl_lt r dr) (Nat.pow_pos (by decide))
        obtain ⟨k1, l1⟩ := key a p hp' (fun d hd => dp d (List.mem_cons_of_mem _ hd))
        obtain ⟨k2, l2⟩ := key b q hq' (fun d hd => dq d (List.mem_cons_of_mem _ hd))
        rw [k1, k2, lx, ← i]
        generalize vl p * 16 ^ (n - p.length) = x at *
        generalize vl q * 16 ^ (n - q.length) = y at *
        generalize 16 ^ n = z at *
        simp only [List.length_cons]
        rcases Nat.lt_trichotomy a b with h | h | h
        · have : (a + 1) * z ≤ b * z := Nat.mul_le_mul_right _ h
          rw [Nat.add_mul, Nat.one_mul] at this
          constructor
          · intro _; exact Or.inl h
          · intro _; left; omega
        · subst h
          constructor
          · intro q9
            right
            refine ⟨rfl, ?_⟩
            rcases q9 with q9 | q9
            · left; omega
            · right; omega
          · intro q9
            rcases q9 with q9 | ⟨-, q9 | q9⟩
            · omega
            · left; omega
            · right; omega
        · have : (b + 1) * z ≤ a * z := Nat.mul_le_mul_right _ h
          rw [Nat.add_mul, Nat.one_mul] at this
          constructor
          · intro q9; exfalso; omega
          · intro q9; exfalso; omega
theorem ordn_lt {p q : List Nat} (hp : nb p) (hq : nb q) : ordn p < ordn q ↔ lx p q := by
  rw [← lx_iff 4 p q hp.1 hq.1 hp.2 hq.2]
  unfold ordn
  have a := ord_top hp
  have b := ord_top hq
  have c := hp.1
  have d := hq.1
  omega
theorem ordn_sm {p : List Nat} (h : nb p) : ordn p < 2 ^ 31 := by
  have := ord_top h
  have := h.1
  unfold ordn
  omega
theorem ordn_eq {p q : List Nat} (hp : nb p) (hq : nb q) (h : ordn p = ordn q) : p = q := by
  have a := ord_top hp
  have b := ord_top hq
  have c := hp.1
  have d := hq.1
  unfold ordn at h
  have hl : p.length = q.length := by omega
  have hv : num p * 16 ^ (4 - p.length) = num q * 16 ^ (4 - p.length) := by rw [← hl] at h; omega
  exact num_inj' hp.2 hq.2 (Nat.eq_of_mul_eq_mul_right (Nat.pow_pos (by decide)) hv)
theorem lx_irrefl : ∀ p : List Nat, ¬ lx p p := by
  intro p
  induction p with
  | nil => intro h; exact h
  | cons a p ih => intro h; rcases h with h | ⟨_, h⟩; exact Nat.lt_irrefl a h; exact ih h
theorem lx_trans : ∀ p q r : List Nat, lx p q → lx q r → lx p r := by
  intro p
  induction p with
  | nil =>
    intro q r h1 h2
    cases r with
    | nil => cases q with
      | nil => exact h1
      | cons b q => exact h2
    | cons c r => trivial
  | cons a p ih =>
    intro q r h1 h2
    cases q with
    | nil => exact absurd h1 (fun h => h)
    | cons b q =>
      cases r with
      | nil => exact absurd h2 (fun h => h)
      | cons c r =>
        rcases h1 with h1 | ⟨rfl, h1⟩
        · rcases h2 with h2 | ⟨rfl, h2⟩
          · exact Or.inl (Nat.lt_trans h1 h2)
          · exact Or.inl h1
        · rcases h2 with h2 | ⟨rfl, h2⟩
          · exact Or.inl h2
          · exact Or.inr ⟨rfl, ih q r h1 h2⟩
theorem lx_total : ∀ p q : List Nat, lx p q ∨ p = q ∨ lx q p := by
  intro p
  induction p with
  | nil => intro q; cases q with
    | nil => exact Or.inr (Or.inl rfl)
    | cons b q => exact Or.inl trivial
  | cons a p ih =>
    intro q
    cases q with
    | nil => exact Or.inr (Or.inr trivial)
    | cons b q =>
      rcases Nat.lt_trichotomy a b with h | h | h
      · exact Or.inl (Or.inl h)
      · subst h
        rcases ih q with h | h | h
        · exact Or.inl (Or.inr ⟨rfl, h⟩)
        · exact Or.inr (Or.inl (by rw [h]))
        · exact Or.inr (Or.inr (Or.inr ⟨rfl, h⟩))
      · exact Or.inr (Or.inr (Or.inl h))
/-- a map's rows in the order of the paths -/
def Srt (es : List Ent) : Prop := (∀ e ∈ es, nb e.1) ∧ es.Pairwise (fun a b => lx a.1 b.1)
theorem Srt.keys {es : List Ent} (h : Srt es) : Keys es := ⟨h.1, List.Pairwise.imp (S := fun a b : Ent => a.1 ≠ b.1) (fun {a b} hab e => lx_irrefl b.1 (by rw [e] at hab; exact hab)) h.2⟩
