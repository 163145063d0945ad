/-! Paths as lists of nibbles; what both sides' path arithmetic does to them. -/
def vl (p : List Nat) : Nat := p.foldl (fun a d => 16 * a + d) 0
def num (p : List Nat) : Nat := p.foldl (fun a d => 16 * a + d) 1
def nb (p : List Nat) : Prop := p.length ≤ 4 ∧ ∀ d ∈ p, d < 16
theorem fold_vl : ∀ (p : List Nat) (a : Nat), p.foldl (fun a d => 16 * a + d) a = a * 16 ^ p.length + vl p := by
  intro p
  induction p with
  | nil => intro a; simp [vl]
  | cons d p ih =>
    intro a
    have h1 := ih (16 * a + d)
    have h2 : vl (d :: p) = d * 16 ^ p.length + vl p := by
      show List.foldl (fun a d => 16 * a + d) (16 * 0 + d) p = _
      rw [ih, Nat.mul_zero, Nat.zero_add]
    rw [List.foldl_cons, h1, h2, List.length_cons, Nat.pow_succ]
    have e1 : (16 * a + d) * 16 ^ p.length = 16 * (a * 16 ^ p.length) + d * 16 ^ p.length := by rw [Nat.add_mul, Nat.mul_assoc]
    have e2 : a * (16 ^ p.length * 16) = 16 * (a * 16 ^ p.length) := by rw [← Nat.mul_assoc, Nat.mul_comm]
    rw [e1, e2]
    omega
theorem num_eq (p : List Nat) : num p = 16 ^ p.length + vl p := by
  have h := fold_vl p 1
  rw [Nat.one_mul] at h
  exact h
theorem num_app (p q : List Nat) : num (p ++ q) = num p * 16 ^ q.length + vl q := by
  unfold num
  rw [List.foldl_append]
  exact fold_vl q _
theorem vl_app (p q : List Nat) : vl (p ++ q) = vl p * 16 ^ q.length + vl q := by
  show List.foldl (fun a d => 16 * a + d) 0 (p ++ q) = _
  rw [List.foldl_append]
  exact fold_vl q _
theorem vl_lt : ∀ (p : List Nat), (∀ d ∈ p, d < 16) → vl p < 16 ^ p.length := by
  intro p
  induction p with
  | nil => intro _; simp [vl]
  | cons d p ih =>
    intro h
    have h1 := ih (fun e he => h e (List.mem_cons_of_mem _ he))
    have h2 : vl (d :: p) = d * 16 ^ p.length + vl p := by
      show List.foldl (fun a d => 16 * a + d) (16 * 0 + d) p = _
      rw [fold_vl, Nat.mul_zero, Nat.zero_add]
    have hd : d < 16 := h d List.mem_cons_self
    rw [h2, List.length_cons, Nat.pow_succ]
    have : d * 16 ^ p.length ≤ 15 * 16 ^ p.length := Nat.mul_le_mul_right _ (by omega)
    omega
theorem num_lo (p : List Nat) : 16 ^ p.length ≤ num p := by rw [num_eq]; omega
theorem num_hi {p : List Nat} (h : ∀ d ∈ p, d < 16) : num p < 2 * 16 ^ p.length := by
  have := vl_lt p h
  rw [num_eq]
  omega
theorem pw4 {n : Nat} (h : n ≤ 4) : 16 ^ n ≤ 65536 := Nat.le_trans (Nat.pow_le_pow_right (by decide) h) (by decide)
theorem num_sm {p : List Nat} (h : nb p) : 1 ≤ num p ∧ num p < 131072 := by
  have h1 := num_lo p
  have h2 := num_hi h.2
  have h3 := pw4 h.1
  have h4 : 1 ≤ 16 ^ p.length := Nat.one_le_pow _ _ (by decide)
  omega
theorem num_front {p : List Nat} (h : ∀ d ∈ p, d < 16) {k : Nat} (hk : k ≤ p.length) : num p / 16 ^ (p.length - k) = num (p.take k) := by
  have e : num p = num (p.take k) * 16 ^ (p.length - k) + vl (p.drop k) := by
    have := num_app (p.take k) (p.drop k)
    rw [List.take_append_drop, List.length_drop] at this
    exact this
  have hl : vl (p.drop k) < 16 ^ (p.length - k) := by
    have := vl_lt (p.drop k) (fun d hd => h d (List.mem_of_mem_drop hd))
    rw [List.length_drop] at this
    exact this
  rw [e, Nat.mul_comm, Nat.mul_add_div (Nat.lt_of_le_of_lt (Nat.zero_le _) hl), Nat.div_eq_of_lt hl, Nat.add_zero]
theorem num_back {p : List Nat} (h : ∀ d ∈ p, d < 16) {k : Nat} (hk : k ≤ p.length) : num p % 16 ^ (p.length - k) = vl (p.drop k) ∧ num (p.drop k) = 16 ^ (p.length - k) + vl (p.drop k) := by
  have e : num p = num (p.take k) * 16 ^ (p.length - k) + vl (p.drop k) := by
    have := num_app (p.take k) (p.drop k)
    rw [List.take_append_drop, List.length_drop] at this
    exact this
  have hl : vl (p.drop k) < 16 ^ (p.length - k) := by
    have := vl_lt (p.drop k) (fun d hd => h d (List.mem_of_mem_drop hd))
    rw [List.length_drop] at this
    exact this
  refine ⟨?_, ?_⟩
  · rw [e, Nat.mul_comm, Nat.mul_add_mod, Nat.mod_eq_of_lt hl]
  · rw [num_eq, List.length_drop]
/-- the number says how long the path is -/
theorem len_of {p q : List Nat} (hp : ∀ d ∈ p, d < 16) (hq : ∀ d ∈ q, d < 16) (e : num p = num q) : p.length = q.length := by
  have a1 := num_lo p
  have a2 := num_hi hp
  have b1 := num_lo q
  have b2 := num_hi hq
  rcases Nat.lt_trichotomy p.length q.length with h | h | h
  · have : 16 ^ (p.length + 1) ≤ 16 ^ q.length := Nat.pow_le_pow_right (by decide) h
    rw [Nat.pow_succ] at this
    omega
  · exact h
  · have : 16 ^ (q.length + 1) ≤ 16 ^ p.length := Nat.pow_le_pow_right (by decide) h
    rw [Nat.pow_succ] at this
    omega
theorem num_inj : ∀ (n : Nat) (p q : List Nat), p.length = n → (∀ d ∈ p, d < 16) → (∀ d ∈ q, d < 16) → num p = num q → p = q := by
  intro n
  induction n with
  | zero =>
    intro p q hl hp hq e
    have := len_of hp hq e
    rw [List.length_eq_zero_iff.mp hl]
    exact (List.length_eq_zero_iff.mp (by omega)).symm
  | succ n ih =>
    intro p q hl hp hq e
    have hlq := len_of hp hq e
    have ep : p = p.take n ++ p.drop n := (List.take_append_drop n p).symm
    have eq : q = q.take n ++ q.drop n := (List.take_append_drop n q).symm
    obtain ⟨a, ha⟩ : ∃ a, p.drop n = [a] := List.length_eq_one_iff.mp (by rw [List.length_drop]; omega)
    obtain ⟨b, hb⟩ : ∃ b, q.drop n = [b] := List.length_eq_one_iff.mp (by rw [List.length_drop]; omega)
    have ha16 : a < 16 := hp a (List.mem_of_mem_drop (i := n) (by rw [ha]; exact List.mem_cons_self))
    have hb16 : b < 16 := hq b (List.mem_of_mem_drop (i := n) (by rw [hb]; exact List.mem_cons_self))
    rw [ha] at ep
    rw [hb] at eq
    have n1 : num p = num (p.take n) * 16 + a := by
      have := num_app (p.take n) [a]
      rw [← ep] at this
      simpa [vl] using this
    have n2 : num q = num (q.take n) * 16 + b := by
      have := num_app (q.take n) [b]
      rw [← eq] at this
      simpa [vl] using this
    have h3 : num (p.take n) = num (q.take n) ∧ a = b := by omega
    have h4 := ih (p.take n) (q.take n) (by rw [List.length_take]; omega) (fun d hd => hp d (List.mem_of_mem_take hd)) (fun d hd => hq d (List.mem_of_mem_take hd)) h3.1
    rw [ep, eq, h4, h3.2]
theorem num_inj' {p q : List Nat} (hp : ∀ d ∈ p, d < 16) (hq : ∀ d ∈ q, d < 16) (e : num p = num q) : p = q := num_inj _ p q rfl hp hq e
/-- a number's nibbles -/
def toP : Nat → Nat → List Nat
  | 0, _ => []
  | k + 1, n => toP k (n / 16) ++ [n % 16]
theorem toP_ok : ∀ (k n : Nat), 16 ^ k ≤ n → n < 2 * 16 ^ k → (toP k n).length = k ∧ (∀ d ∈ toP k n, d < 16) ∧ num (toP k n) = n := by
  intro k
  induction k with
  | zero =>
    intro n h1 h2
    refine ⟨rfl, fun d hd => (by cases hd), ?_⟩
    show 1 = n
    simp at h1 h2
    omega
  | succ k ih =>
    intro n h1 h2
    rw [Nat.pow_succ] at h1 h2
    obtain ⟨i1, i2, i3⟩ := ih (n / 16) (by omega) (by omega)
    refine ⟨by simp [toP, i1], ?_, ?_⟩
    · intro d hd
      rcases List.mem_append.mp hd with h | h
      · exact i2 d h
      · rw [List.mem_singleton.mp h]; omega
    · show num (toP k (n / 16) ++ [n % 16]) = n
      rw [num_app, i3]
      simp [vl]
      omega
theorem le_nI {c n : Nat} (hc : c < 2 ^ 31) (hn : n < 2 ^ 31) : nI c ≤ nI n ↔ c ≤ n := nI_leI hc hn
/-- shifts by whole nibbles -/
theorem sh_r {n j : Nat} (hn : n < 2 ^ 31) (hj : j ≤ 4) : nI n >>> ((4 * nI j) &&& 31) = nI (n / 16 ^ j) := by
  rcases (show j = 0 ∨ j = 1 ∨ j = 2 ∨ j = 3 ∨ j = 4 by omega) with rfl | rfl | rfl | rfl | rfl
  · exact pk_shrN hn _ 0 (by decide)
  · exact pk_shrN hn _ 4 (by decide)
  · exact pk_shrN hn _ 8 (by decide)
  · exact pk_shrN hn _ 12 (by decide)
  · exact pk_shrN hn _ 16 (by decide)
theorem PA_length_eq {p : List Nat} (h : nb p) : f_PA_length (nI (num p)) = nI p.length := by
  have hs := num_sm h
  have h1 := num_lo p
  have h2 := num_hi h.2
  have c : ∀ k : Nat, k < 2 ^ 31 → ((nI k ≤ nI (num p)) ↔ k ≤ num p) := fun k hk => nI_leI hk (by omega)
  have c16 : ((16 : Int32) ≤ nI (num p)) ↔ 16 ≤ num p := c 16 (by decide)
  have c256 : ((256 : Int32) ≤ nI (num p)) ↔ 256 ≤ num p := c 256 (by decide)
  have c4096 : ((4096 : Int32) ≤ nI (num p)) ↔ 4096 ≤ num p := c 4096 (by decide)
  have c65536 : ((65536 : Int32) ≤ nI (num p)) ↔ 65536 ≤ num p := c 65536 (by decide)
  unfold f_PA_length
  have hl := h.1
  rcases (show p.length = 0 ∨ p.length = 1 ∨ p.length = 2 ∨ p.length = 3 ∨ p.length = 4 by omega) with e | e | e | e | e <;> rw [e] at h1 h2 ⊢ <;> simp only [c16, c256, c4096, c65536]
  · rw [if_neg (by omega)]; rfl
  · rw [if_pos (by omega), if_neg (by omega)]; rfl
  · rw [if_pos (by omega), if_pos (by omega), if_neg (by omega)]; rfl
  · rw [if_pos (by omega), if_pos (by omega), if_pos (by omega), if_neg (by omega)]; rfl
  · rw [if_pos (by omega), if_pos (by omega), if_pos (by omega), if_pos (by omega)]; rfl
theorem nI_sub' {a b : Nat} (h : b ≤ a) : nI a - nI b = nI (a - b) := pk_sub h
theorem PA_front_eq {p : List Nat} (h : nb p) {k : Nat} (hk : k ≤ p.length) : f_PA_front (nI (num p)) (nI k) = nI (num (p.take k)) := by
  have hs := num_sm h
  unfold f_PA_front
  rw [PA_length_eq h, nI_sub' hk, sh_r (by omega) (by have := h.1; omega), num_front h.2 hk]
theorem and15 {n : Nat} (h : n < 2 ^ 31) : nI n &&& 15 = nI (n % 16) := pk_andN (m := 15) (by omega) 4 (by decide)
theorem num_last {p : List Nat} {k : Nat} (hk : k < p.length) : num (p.take (k + 1)) % 16 = p[k] % 16 := by
  rw [List.take_succ_eq_append_getElem hk, num_app]
  simp [vl]
theorem PA_nibble_eq {p : List Nat} (h : nb p) {k : Nat} (hk : k < p.length) : f_PA_nibble (nI (num p)) (nI k) = nI (p[k]) := by
  have hs := num_sm h
  unfold f_PA_nibble
  rw [PA_length_eq h, nI_sub' (Nat.le_of_lt hk), show (1 : Int32) = nI 1 from rfl, nI_sub' (show 1 ≤ p.length - k by omega), sh_r (by omega) (by have := h.1; omega), show p.length - k - 1 = p.length - (k + 1) by omega, num_front (k := k + 1) h.2 hk]
  have hs2 : num (p.take (k + 1)) < 131072 := (num_sm (p := p.take (k + 1)) ⟨by rw [List.length_take]; have := h.1; omega, fun d hd => h.2 d (List.mem_of_mem_take hd)⟩).2
  rw [and15 (by omega), num_last hk, Nat.mod_eq_of_lt (h.2 _ (List.getElem_mem hk))]
/-- 2 to the bits of j nibbles, and what lies below -/
theorem sh_l {j : Nat} (hj : j ≤ 4) : (1 : Int32) <<< ((4 * nI j) &&& 31) = nI (16 ^ j) := by
  rcases (show j = 0 ∨ j = 1 ∨ j = 2 ∨ j = 3 ∨ j = 4 by omega) with rfl | rfl | rfl | rfl | rfl <;> decide
theorem and_low {n j : Nat} (hn : n < 2 ^ 31) (hj : j ≤ 4) : nI n &&& (nI (16 ^ j) - 1) = nI (n % 16 ^ j) := by
  rcases (show j = 0 ∨ j = 1 ∨ j = 2 ∨ j = 3 ∨ j = 4 by omega) with rfl | rfl | rfl | rfl | rfl
  · exact pk_andN (by omega) 0 (by decide)
  · exact pk_andN (by omega) 4 (by decide)
  · exact pk_andN (by omega) 8 (by decide)
  · exact pk_andN (by omega) 12 (by decide)
  · exact pk_andN (by omega) 16 (by decide)
theorem or_nat (a c : Nat) : nI a ||| nI c = nI (a ||| c) := by
  apply Int32.toBitVec_inj.mp
  show BitVec.ofNat 32 a ||| BitVec.ofNat 32 c = BitVec.ofNat 32 (a ||| c)
  exact (BitVec.ofNat_or).symm
theorem or_low {r j : Nat} (hj : j ≤ 4) (hr : r < 16 ^ j) : nI (16 ^ j) ||| nI r = nI (16 ^ j + r) := by
  rw [or_nat]
  congr 1
  have e : (16 : Nat) ^ j = 2 ^ (4 * j) := by rw [Nat.pow_mul]
  rw [e] at hr ⊢
  have := Nat.two_pow_add_eq_or_of_lt hr 1
  rw [Nat.mul_one] at this
  exact this.symm
theorem PA_without_eq {p : List Nat} (h : nb p) {k : Nat} (hk : k ≤ p.length) : f_PA_without (nI (num p)) (nI k) = nI (num (p.drop k)) := by
  have hs := num_sm h
  have hb := num_back h.2 hk
  have hj : p.length - k ≤ 4 := by have := h.1; omega
  have hl : vl (p.drop k) < 16 ^ (p.length - k) := by
    have := vl_lt (p.drop k) (fun d hd => h.2 d (List.mem_of_mem_drop hd))
    rw [List.length_drop] at this
    exact this
  unfold f_PA_without
  simp only [st]
  rw [PA_length_eq h, nI_sub' hk, sh_l hj, and_low (by omega) hj, hb.1, or_low hj hl, hb.2]
theorem PA_begins_eq {p q : List Nat} (hp : nb p) (hq : nb q) : f_PA_begins (nI (num p)) (nI (num q)) = if q <+: p then 1 else 0 := by
  have h1 := hp.1
  have h2 := hq.1
  unfold f_PA_begins
  rw [PA_length_eq hp, PA_length_eq hq]
  by_cases hl : p.length < q.length
  · rw [if_pos (nI_lt hl (by omega)), if_neg]
    intro h
    have := h.length_le
    omega
  · rw [if_neg (nI_nlt (by omega) (by omega)), PA_front_eq hp (by omega)]
    by_cases he : q <+: p
    · rw [if_pos he, if_pos]
      rw [List.prefix_iff_eq_take.mp he, List.length_take, Nat.min_eq_left (by omega)]
    · rw [if_neg he, if_neg]
      intro h
      apply he
      have hs1 := num_sm (p := p.take q.length) ⟨by rw [List.length_take]; omega, fun d hd => hp.2 d (List.mem_of_mem_take hd)⟩
      have hs2 := num_sm hq
      have := (nI_eq (by omega) (by omega)).mp h
      have e := num_inj' (fun d hd => hp.2 d (List.mem_of_mem_take hd)) hq.2 this
      rw [← e]
      exact List.take_prefix _ _
/-- how many nibbles two paths have in common at their fronts -/
def cl : List Nat → List Nat → Nat
  | a :: p, b :: q => if a = b then cl p q + 1 else 0
  | _, _ => 0
theorem cl_le : ∀ (p q : List Nat), cl p q ≤ p.length ∧ cl p q ≤ q.length := by
  intro p
  induction p with
  | nil => intro q; simp [cl]
  | cons a p ih =>
    intro q
    cases q with
    | nil => simp [cl]
    | cons b q =>
      unfold cl
      by_cases h : a = b
      · rw [if_pos h]; have := ih q; simp; omega
      · rw [if_neg h]; simp
theorem cl_at : ∀ (p q : List Nat) (i : Nat) (h1 : i < p.length) (h2 : i < q.length), i < cl p q → p[i] = q[i] := by
  intro p
  induction p with
  | nil => intro q i h1; simp at h1
  | cons a p ih =>
    intro q i h1 h2 h
    cases q with
    | nil => simp at h2
    | cons b q =>
      unfold cl at h
      by_cases e : a = b
      · rw [if_pos e] at h
        cases i with
        | zero => exact e
        | succ i => exact ih q i (by simpa using h1) (by simpa using h2) (by omega)
      · rw [if_neg e] at h; omega
theorem cl_end : ∀ (p q : List Nat) (h1 : cl p q < p.length) (h2 : cl p q < q.length), p[cl p q] ≠ q[cl p q] := by
  intro p
  induction p with
  | nil => intro q h1; simp at h1
  | cons a p ih =>
    intro q h1 h2
    cases q with
    | nil => simp at h2
    | cons b q =>
      by_cases e : a = b
      · have ec : cl (a :: p) (b :: q) = cl p q + 1 := by rw [cl, if_pos e]
        have g1 : cl p q < p.length := by rw [ec] at h1; simpa using h1
        have g2 : cl p q < q.length := by rw [ec] at h2; simpa using h2
        simp only [ec, List.getElem_cons_succ]
        exact ih q g1 g2
      · have ec : cl (a :: p) (b :: q) = 0 := by rw [cl, if_neg e]
        simp only [ec, List.getElem_cons_zero]
        exact e
theorem imin_nI {a c : Nat} (ha : a < 2 ^ 31) (hc : c < 2 ^ 31) : imin (nI a) (nI c) = nI (min a c) := by
  unfold imin
  by_cases h : c < a
  · rw [if_pos ((nI_ltI hc ha).mpr h), Nat.min_eq_right (by omega)]
  · rw [if_neg (fun q => h ((nI_ltI hc ha).mp q)), Nat.min_eq_left (by omega)]
theorem PA_common_eq {p q : List Nat} (hp : nb p) (hq : nb q) : f_PA_commonLength (nI (num p)) (nI (num q)) = some (nI (cl p q)) := by
  have h1 := hp.1
  have h2 := hq.1
  have hc := cl_le p q
  have go : ∀ (n i f : Nat), i + n = cl p q → f_PA_commonLength_14 (n + f + 1) (nI (num p)) (nI (num q)) (nI (min p.length q.length)) (nI i) = some (nI (cl p q)) := by
    intro n
    induction n with
    | zero =>
      intro i f hi
      have hi : i = cl p q := by omega
      subst hi
      rw [f_PA_commonLength_14]
      by_cases hm : min p.length q.length ≤ cl p q
      · rw [if_pos ((nI_leI (by omega) (by omega)).mpr hm)]
      · have g1 : cl p q < p.length := by omega
        have g2 : cl p q < q.length := by omega
        rw [if_neg (fun z => hm ((nI_leI (by omega) (by omega)).mp z)), PA_nibble_eq hp g1, PA_nibble_eq hq g2, if_neg]
        intro z
        have a1 := hp.2 _ (List.getElem_mem g1)
        have a2 := hq.2 _ (List.getElem_mem g2)
        exact cl_end p q g1 g2 ((nI_eq (by omega) (by omega)).mp z)
    | succ n ih =>
      intro i f hi
      have g1 : i < p.length := by omega
      have g2 : i < q.length := by omega
      rw [show n + 1 + f + 1 = (n + f + 1) + 1 by omega, f_PA_commonLength_14, if_neg (fun z => by have := (nI_leI (by omega) (by omega)).mp z; omega), PA_nibble_eq hp g1, PA_nibble_eq hq g2, if_pos (by rw [cl_at p q i g1 g2 (by omega)]), show nI i + 1 = nI (i + 1) from nI_add i 1]
      exact ih (i + 1) f (by omega)
  unfold f_PA_commonLength
  simp only [st]
  rw [PA_length_eq hp, PA_length_eq hq, imin_nI (by omega) (by omega), show FU = cl p q + (4095 - cl p q) + 1 by unfold FU; omega]
  have := go (cl p q) 0 (4095 - cl p q) (by omega)
  rw [nI_0] at this
  exact this
