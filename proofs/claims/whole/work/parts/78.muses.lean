/-! The reference: how often a branch is used; the two sides' sums are one. -/
def ld (B X : List Ent) : Nat := if 2 ≤ X.length ∧ brA X = B then 1 else 0
def TL (B A : List Ent) : Nat := ((List.range' 0 16).map (fun c => ld B (sub c A))).sum
section MU2
variable {G : Nat → Nat} {M : Mm} {mo n : Nat} {um : Nat → Nat} {KK LL : Nat → List Ent} {PP : Nat → List (List Nat)} {r0 : Nat} {p0 : List Nat}
theorem leads_eq (hv : ∀ m, 1 ≤ m → m ≤ n → Mb G M mo um m (KK m) (LL m) (PP m)) (a1 : 1 ≤ r0 / 16) (a2 : r0 / 16 ≤ n) (a3 : (PP (r0 / 16))[r0 % 16]? = some p0) {m : Nat} (h1 : 1 ≤ m) (h2 : m ≤ n) {P : List Nat} (hP : nb P) : (f_MO_leads G mo (nI m) (nI (num P)) (nI r0) M = some 1 ∧ ld (rl p0 (LL (r0 / 16))) (rl P (LL m)) = 1) ∨ (f_MO_leads G mo (nI m) (nI (num P)) (nI r0) M = some 0 ∧ ld (rl p0 (LL (r0 / 16))) (rl P (LL m)) = 0) := by
  have hb := hv m h1 h2
  have hb0 := hv (r0 / 16) a1 a2
  have h16 := rl16 hb.1 P
  have hL := hb.1.2.2.2.2
  unfold f_MO_leads ld
  rw [members_eq hb.1 hP, Option.bind_some]
  by_cases c : 2 ≤ (rl P (LL m)).length
  · rw [if_pos (show (2 : Int32) ≤ nI (rl P (LL m)).length from nI_le (a := 2) c (by omega)), common_eq hb.1 hP (by omega), Option.bind_some]
    have hin : brQ P (rl P (LL m)) ∈ PP m := (hb.2.2.2.2 _).mpr (isBr_brQ hL c)
    rcases place_or hb.1.1 hb.1.2.1 hb.2.1 (nb_brQ (P := P) hL (by omega)) with ⟨x1, x2⟩ | ⟨j, hj, x1, x2⟩
    · exact absurd hin x2
    · rw [x2, Option.bind_some]
      have hs := msame_eq hb0 hb a3 x1
      rw [show 16 * (r0 / 16) + r0 % 16 = r0 by omega] at hs
      rcases hs with ⟨a, d⟩ | ⟨a, d⟩
      · rw [a, Option.bind_some]
        exact Or.inl ⟨rfl, if_pos ⟨c, by rw [brA_rl hL, d]⟩⟩
      · rw [a, Option.bind_some]
        exact Or.inr ⟨rfl, if_neg (fun z => d (by rw [← z.2, brA_rl hL]))⟩
  · rw [if_neg (show ¬ (2 : Int32) ≤ nI (rl P (LL m)).length from nI_ge (show (rl P (LL m)).length < 2 by omega) (by decide))]
    exact Or.inr ⟨rfl, if_neg (fun z => c z.1)⟩
theorem u55_loop (hv : ∀ m, 1 ≤ m → m ≤ n → Mb G M mo um m (KK m) (LL m) (PP m)) (a1 : 1 ≤ r0 / 16) (a2 : r0 / 16 ≤ n) (a3 : (PP (r0 / 16))[r0 % 16]? = some p0) {k39 : Nat → Int32 → Int32 → Int32 → Mm → Option Int32} {r : Nat} {p : List Nat} (hr : r < 64) (b1 : 1 ≤ r / 16) (b2 : r / 16 ≤ n) (b3 : (PP (r / 16))[r % 16]? = some p) : ∀ (s c f v : Nat), c + s = 16 → f_MO_usesOf_55 G k39 (s + f + 1) mo (nI r0) (nI v) (nI r) 1 (nI c) M = k39 mo (nI r0) (nI (v + ((List.range' c s).map (fun c => ld (rl p0 (LL (r0 / 16))) (sub c (rl p (LL (r / 16)))))).sum)) (nI (r + 1)) M := by
  have hb := hv (r / 16) b1 b2
  have hx := hb.1.1
  obtain ⟨q0, q1, q2, q3, q4, q5, q6, q7, g0, g1, g2, g3, g4, g5, g6, g7, -⟩ := hx
  have hrow := hb.2.1.2.2.1 _ p b3
  rw [show 16 * (r / 16) + r % 16 = r by omega] at hrow
  have hbr := isBr_nb hb.1.2.2.2.2 ((hb.2.2.2.2 p).mp (List.mem_of_getElem? b3))
  intro s
  induction s with
  | zero =>
    intro c f v hc
    have hc : c = 16 := by omega
    subst hc
    have h16 : (16 : Int32) ≤ nI 16 := Int32.le_refl _
    rw [f_MO_usesOf_55, if_pos h16, nI_1]
    rfl
  | succ s ih =>
    intro c f v hc
    have h16 : ¬ (16 : Int32) ≤ nI c := nI_ge (show c < 16 by omega) (by decide)
    rw [show s + 1 + f + 1 = (s + f + 1) + 1 by omega, f_MO_usesOf_55, if_neg h16, if_neg (by decide), q3, g3, ix_nI hr (by decide), Option.bind_some, hrow, div16 (by omega), m16, ← num_snoc, List.range'_succ, List.map_cons, List.sum_cons, sub_rl, nI_1, nI_1]
    rcases leads_eq hv a1 a2 a3 b1 b2 (nb_snoc hbr.1 hbr.2 (show c < 16 by omega)) with ⟨x, d⟩ | ⟨x, d⟩
    · rw [x, Option.bind_some, if_neg (by decide), d, ih (c + 1) f (v + 1) (by omega), Nat.add_assoc]
    · rw [x, Option.bind_some, if_pos rfl, d, ih (c + 1) f v (by omega), Nat.zero_add]
theorem u39_loop (hR : ModelR G M mo um) (h3 : gi M mo 3 = nI n) (hn : n ≤ 3) (hv : ∀ m, 1 ≤ m → m ≤ n → Mb G M mo um m (KK m) (LL m) (PP m)) (a1 : 1 ≤ r0 / 16) (a2 : r0 / 16 ≤ n) (a3 : (PP (r0 / 16))[r0 % 16]? = some p0) : ∀ (s r f v : Nat), r + s = 64 → 16 ≤ r → f_MO_usesOf_39 G (s + f + 1) mo (nI r0) (nI v) (nI r) M = some (nI (v + fsum (TL (rl p0 (LL (r0 / 16)))) (Sn n LL PP r) ((List.range' r s).flatMap (dk n LL PP)))) := by
  intro s
  induction s with
  | zero =>
    intro r f v hr h16
    have hr : r = 64 := by omega
    subst hr
    have h64 : (64 : Int32) ≤ nI 64 := Int32.le_refl _
    rw [f_MO_usesOf_39, if_pos h64]
    simp [fsum]
  | succ s ih =>
    intro r f v hr h16
    have h64 : ¬ (64 : Int32) ≤ nI r := nI_ge (show r < 64 by omega) (by decide)
    rw [show s + 1 + f + 1 = (s + f + 1) + 1 by omega, f_MO_usesOf_39, if_neg h64, fsum_step h16]
    rcases stands_eq hR h3 hn hv h16 (show r < 64 by omega) with ⟨a, d⟩ | ⟨a, p, b1, b2, b3, d⟩
    · rw [a, Option.bind_some, d, Nat.zero_add, show FU = 4095 + 1 from rfl, f_MO_usesOf_55, if_neg (by decide), if_pos rfl, nI_1]
      exact ih (r + 1) f v (by omega) (by omega)
    · have := u55_loop hv a1 a2 a3 (k39 := fun y0 y1 y2 y3 M => f_MO_usesOf_39 G (s + f + 1) y0 y1 y2 y3 M) (show r < 64 by omega) b1 b2 b3 16 0 4079 v rfl
      rw [nI_0] at this
      rw [a, Option.bind_some, d, show FU = 16 + 4079 + 1 from rfl, this, ih (r + 1) f _ (by omega) (by omega), Nat.add_assoc]
      rfl
theorem u4_loop (h3 : gi M mo 3 = nI n) (hn : n ≤ 3) (hv : ∀ m, 1 ≤ m → m ≤ n → Mb G M mo um m (KK m) (LL m) (PP m)) (a1 : 1 ≤ r0 / 16) (a2 : r0 / 16 ≤ n) (a3 : (PP (r0 / 16))[r0 % 16]? = some p0) : ∀ (s m f v : Nat), m + s = n + 1 → 1 ≤ m → f_MO_usesOf_4 G (s + f + 1) mo (nI r0) (nI v) (nI m) M = f_MO_usesOf_39 G FU mo (nI r0) (nI (v + ((List.range' m s).map (fun m => ld (rl p0 (LL (r0 / 16))) (LL m))).sum)) 16 M := by
  intro s
  induction s with
  | zero =>
    intro m f v hm h1
    rw [f_MO_usesOf_4, h3, if_pos (nI_lt (by omega) (by omega))]
    rfl
  | succ s ih =>
    intro m f v hm h1
    have hl := leads_eq hv a1 a2 a3 h1 (show m ≤ n by omega) (P := []) ⟨by simp, fun d hd => (by cases hd)⟩
    rw [rl_nil, show nI (num []) = (1 : Int32) from rfl] at hl
    rw [show s + 1 + f + 1 = (s + f + 1) + 1 by omega, f_MO_usesOf_4, h3, if_neg (nI_nlt (by omega) (by omega)), List.range'_succ, List.map_cons, List.sum_cons]
    rcases hl with ⟨x, d⟩ | ⟨x, d⟩
    · rw [x, Option.bind_some, if_neg (by decide), nI_1, nI_1, d, ih (m + 1) f (v + 1) (by omega) (by omega), Nat.add_assoc]
    · rw [x, Option.bind_some, if_pos rfl, nI_1, d, ih (m + 1) f v (by omega) (by omega), Nat.zero_add]
/-- the uses of one stored branch -/
noncomputable def UU (n : Nat) (LL : Nat → List Ent) (D : List (List Ent)) (B : List Ent) : Nat := ((List.range' 1 n).map (fun m => ld B (LL m))).sum + fsum (TL B) [] D
theorem usesOf_eq (hR : ModelR G M mo um) (h3 : gi M mo 3 = nI n) (hn : n ≤ 3) (hv : ∀ m, 1 ≤ m → m ≤ n → Mb G M mo um m (KK m) (LL m) (PP m)) (a1 : 1 ≤ r0 / 16) (a2 : r0 / 16 ≤ n) (a3 : (PP (r0 / 16))[r0 % 16]? = some p0) : f_MO_usesOf G mo (nI r0) M = some (nI (UU n LL ((List.range' 16 48).flatMap (dk n LL PP)) (rl p0 (LL (r0 / 16))))) := by
  have e1 := u4_loop h3 hn hv a1 a2 a3 n 1 (4095 - n) 0 (by omega) (by omega)
  rw [show n + (4095 - n) + 1 = FU by unfold FU; omega, Nat.zero_add] at e1
  have e2 := u39_loop hR h3 hn hv a1 a2 a3 48 16 4047 (((List.range' 1 n).map (fun m => ld (rl p0 (LL (r0 / 16))) (LL m))).sum) rfl (by omega)
  unfold f_MO_usesOf
  exact e1.trans e2
theorem u6_loop (hR : ModelR G M mo um) (h3 : gi M mo 3 = nI n) (hn : n ≤ 3) (hv : ∀ m, 1 ≤ m → m ≤ n → Mb G M mo um m (KK m) (LL m) (PP m)) {d : Int64} : ∀ (s r f v : Nat), r + s = 64 → 16 ≤ r → f_MO_uses_6 G (s + f + 1) mo d (nI v) (nI r) M = some (nI (v + fsum (fun B => if dg B = d then UU n LL ((List.range' 16 48).flatMap (dk n LL PP)) B else 0) (Sn n LL PP r) ((List.range' r s).flatMap (dk n LL PP)))) := by
  have hx := hR
  obtain ⟨q0, q1, q2, q3, q4, q5, q6, q7, g0, g1, g2, g3, g4, g5, g6, g7, -⟩ := hx
  intro s
  induction s with
  | zero =>
    intro r f v hr h16
    have hr : r = 64 := by omega
    subst hr
    have h64 : (64 : Int32) ≤ nI 64 := Int32.le_refl _
    rw [f_MO_uses_6, if_pos h64]
    simp [fsum]
  | succ s ih =>
    intro r f v hr h16
    have h64 : ¬ (64 : Int32) ≤ nI r := nI_ge (show r < 64 by omega) (by decide)
    rw [show s + 1 + f + 1 = (s + f + 1) + 1 by omega, f_MO_uses_6, if_neg h64, fsum_step h16]
    rcases stands_eq hR h3 hn hv h16 (show r < 64 by omega) with ⟨a, e⟩ | ⟨a, p, b1, b2, b3, e⟩
    · rw [a, Option.bind_some, if_pos rfl, e, Nat.zero_add, nI_1]
      exact ih (r + 1) f v (by omega) (by omega)
    · have hdg := (hv (r / 16) b1 b2).2.2.1 _ p b3
      rw [show 16 * (r / 16) + r % 16 = r by omega] at hdg
      rw [a, Option.bind_some, if_neg (by decide), e, q4, g4, ix_nI (show r < 64 by omega) (by decide), Option.bind_some, hdg, nI_1]
      by_cases c : dg (rl p (LL (r / 16))) = d
      · rw [if_pos (lg_eq.mpr c), usesOf_eq hR h3 hn hv b1 b2 b3, Option.bind_some, nI_add, if_pos c, ih (r + 1) f _ (by omega) (by omega), Nat.add_assoc]
      · rw [if_neg (fun z => c (lg_eq.mp z)), if_neg c, Nat.zero_add]
        exact ih (r + 1) f v (by omega) (by omega)
theorem muses_eq (hR : ModelR G M mo um) (h3 : gi M mo 3 = nI n) (hn : n ≤ 3) (hv : ∀ m, 1 ≤ m → m ≤ n → Mb G M mo um m (KK m) (LL m) (PP m)) (d : Int64) : f_MO_uses G mo d M = some (nI (fsum (fun B => if dg B = d then UU n LL ((List.range' 16 48).flatMap (dk n LL PP)) B else 0) [] ((List.range' 16 48).flatMap (dk n LL PP)))) := by
  have := u6_loop hR h3 hn hv (d := d) 48 16 4047 0 rfl (by omega)
  rw [Nat.zero_add] at this
  exact this
end MU2
/-! Sums. -/
theorem sum_add {α : Type} {f g : α → Nat} : ∀ (l : List α), (l.map (fun x => f x + g x)).sum = (l.map f).sum + (l.map g).sum := by
  intro l
  induction l with
  | nil => rfl
  | cons a l ih => rw [List.map_cons, List.sum_cons, List.map_cons, List.sum_cons, List.map_cons, List.sum_cons, ih]; omega
theorem sum_swap {α β : Type} {h : α → β → Nat} : ∀ (l : List α) (k : List β), (l.map (fun x => (k.map (fun y => h x y)).sum)).sum = (k.map (fun y => (l.map (fun x => h x y)).sum)).sum := by
  intro l
  induction l with
  | nil => intro k; rw [List.map_nil, List.sum_nil]; exact (sum_zero (fun y _ => rfl)).symm
  | cons a l ih =>
    intro k
    rw [List.map_cons, List.sum_cons, ih, ← sum_add]
    congr 1
theorem sum_if {α : Type} {c : Prop} [Decidable c] {f : α → Nat} {l : List α} : (if c then (l.map f).sum else 0) = (l.map (fun y => if c then f y else 0)).sum := by
  by_cases h : c
  · rw [if_pos h]
    congr 1
    exact List.map_congr_left (fun y _ => (if_pos h).symm)
  · rw [if_neg h, sum_zero (fun y _ => if_neg h)]
theorem sum_one {d : Int64} {X : List Ent} : ∀ (E : List (List Ent)), E.Nodup → (E.map (fun B => if dg B = d then ld B X else 0)).sum = if 2 ≤ X.length ∧ brA X ∈ E ∧ dg (brA X) = d then 1 else 0 := by
  intro E
  induction E with
  | nil => intro _; rw [if_neg (fun z => List.not_mem_nil z.2.1)]; rfl
  | cons B E ih =>
    intro hn
    obtain ⟨h1, h2⟩ := List.nodup_cons.mp hn
    rw [List.map_cons, List.sum_cons, ih h2]
    unfold ld
    by_cases c : 2 ≤ X.length ∧ brA X = B
    · rw [if_pos c]
      obtain ⟨c1, rfl⟩ := c
      have hz : (if 2 ≤ X.length ∧ brA X ∈ E ∧ dg (brA X) = d then 1 else 0) = 0 := if_neg (fun z => h1 z.2.1)
      rw [hz]
      by_cases e : dg (brA X) = d
      · rw [if_pos e, if_pos ⟨c1, List.mem_cons_self, e⟩]
      · rw [if_neg e, if_neg (fun z => e z.2.2)]
    · rw [if_neg c, ite_self, Nat.zero_add]
      have hiff : (2 ≤ X.length ∧ brA X ∈ E ∧ dg (brA X) = d) ↔ (2 ≤ X.length ∧ brA X ∈ B :: E ∧ dg (brA X) = d) := by
        rw [List.mem_cons]
        exact ⟨fun z => ⟨z.1, Or.inr z.2.1, z.2.2⟩, fun z => ⟨z.1, z.2.1.resolve_left (fun q => c ⟨z.1, q⟩), z.2.2⟩⟩
      by_cases e : 2 ≤ X.length ∧ brA X ∈ E ∧ dg (brA X) = d
      · rw [if_pos e, if_pos (hiff.mp e)]
      · rw [if_neg e, if_neg (fun z => e (hiff.mpr z))]
theorem sum_one' {d : Int64} {X : List Ent} {E : List (List Ent)} (hn : E.Nodup) (h : 2 ≤ X.length → brA X ∈ E) : (E.map (fun B => if dg B = d then ld B X else 0)).sum = tt d X := by
  rw [sum_one E hn]
  unfold tt
  by_cases c : X.length ≤ 1
  · rw [if_pos c, if_neg (fun z => by have := z.1; omega)]
  · rw [if_neg c]
    by_cases e : dg (brA X) = d
    · rw [if_pos e, if_pos ⟨by omega, h (by omega), e⟩]
    · rw [if_neg e, if_neg (fun z => e z.2.2)]
theorem uses_sum {d : Int64} {n : Nat} {LL : Nat → List Ent} {D : List (List Ent)} (hL : ∀ m, 1 ≤ m → m ≤ n → 2 ≤ (LL m).length → brA (LL m) ∈ D) (hS : ∀ A ∈ D, ∀ c, c < 16 → 2 ≤ (sub c A).length → brA (sub c A) ∈ D) : fsum (fun B => if dg B = d then UU n LL D B else 0) [] D = ((List.range' 1 n).map (fun m => tt d (LL m))).sum + fsum (TT d) [] D := by
  have hE := nodup_ded D []
  have hm : ∀ x, x ∈ ded [] D ↔ x ∈ D := fun x => by
    rw [mem_ded]
    exact ⟨fun z => z.1, fun z => ⟨z, List.not_mem_nil⟩⟩
  rw [fsum_ded, fsum_ded]
  have e1 : (ded [] D).map (fun B => if dg B = d then UU n LL D B else 0) = (ded [] D).map (fun B => (((List.range' 1 n).map (fun m => if dg B = d then ld B (LL m) else 0)).sum) + (((ded [] D).map (fun A => ((List.range' 0 16).map (fun c => if dg B = d then ld B (sub c A) else 0)).sum)).sum)) := by
    refine List.map_congr_left (fun B _ => ?_)
    unfold UU
    rw [fsum_ded]
    unfold TL
    by_cases c : dg B = d
    · simp only [if_pos c]
    · simp only [if_neg c]
      rw [sum_zero (fun _ _ => rfl), sum_zero (fun _ _ => sum_zero (fun _ _ => rfl))]
  have s1 := sum_swap (h := fun (B : List Ent) (m : Nat) => if dg B = d then ld B (LL m) else 0) (ded [] D) (List.range' 1 n)
  have s2 := sum_swap (h := fun (B A : List Ent) => ((List.range' 0 16).map (fun c => if dg B = d then ld B (sub c A) else 0)).sum) (ded [] D) (ded [] D)
  have f1 : (List.range' 1 n).map (fun m => ((ded [] D).map (fun B => if dg B = d then ld B (LL m) else 0)).sum) = (List.range' 1 n).map (fun m => tt d (LL m)) := List.map_congr_left (fun m hm1 => by
    obtain ⟨h1, h2⟩ := List.mem_range'_1.mp hm1
    exact sum_one' hE (fun h => (hm _).mpr (hL m h1 (by omega) h)))
  have f2 : (ded [] D).map (fun A => ((ded [] D).map (fun B => ((List.range' 0 16).map (fun c => if dg B = d then ld B (sub c A) else 0)).sum)).sum) = (ded [] D).map (TT d) := List.map_congr_left (fun A hA => by
    have s3 := sum_swap (h := fun (B : List Ent) (c : Nat) => if dg B = d then ld B (sub c A) else 0) (ded [] D) (List.range' 0 16)
    rw [s3]
    unfold TT
    refine congrArg List.sum (List.map_congr_left (fun c hc => ?_))
    obtain ⟨h1, h2⟩ := List.mem_range'_1.mp hc
    exact sum_one' hE (fun h => (hm _).mpr (hS A ((hm A).mp hA) c (by omega) h)))
  rw [e1, sum_add, s1, s2, f1, f2]
/-! The kinds of both sides are the same, in another order. -/
theorem ps_kinds {L : List Ent} (hL : Srt L) {ps : List (List Nat)} (hn : ps.Nodup) (hc : Cpl L ps) : (ps.map (fun p => rl p L)).Perm (kd L) := by
  have h1 := (ps_perm hL hn hc).map (fun p => rl p L)
  have h2 : ((brs L).map Prod.fst).map (fun p => rl p L) = kd L := by
    unfold kd
    rw [List.map_map]
    refine List.map_congr_left (fun r hr => ?_)
    show rl r.1 L = r.2.1
    rw [(brs_ok hL r hr).1]
  rw [h2] at h1
  exact h1
theorem row_list {α β : Type} {g : α → β} (ps : List α) : ∀ k, (List.range k).flatMap (fun i => (ps[i]?.map g).toList) = (ps.take k).map g := by
  intro k
  induction k with
  | zero => simp
  | succ k ih =>
    rw [List.range_succ, List.flatMap_append, ih, List.take_succ, List.map_append]
    congr 1
    simp only [List.flatMap_cons, List.flatMap_nil, List.append_nil]
    cases ps[k]? <;> rfl
theorem dk_row {n m : Nat} {LL : Nat → List Ent} {PP : Nat → List (List Nat)} (h1 : 1 ≤ m) (h2 : m ≤ n) (hl : (PP m).length ≤ 16) : (List.range' (16 * m) 16).flatMap (dk n LL PP) = (PP m).map (fun p => rl p (LL m)) := by
  have e : List.range' (16 * m) 16 = (List.range 16).map (fun i => 16 * m + i) := by
    rw [List.range_eq_range', List.map_add_range']
    rfl
  rw [e, List.flatMap_map]
  have : ∀ i ∈ List.range 16, dk n LL PP (16 * m + i) = ((PP m)[i]?.map (fun p => rl p (LL m))).toList := fun i hi => by
    have := List.mem_range.mp hi
    unfold dk
    rw [show (16 * m + i) / 16 = m by omega, show (16 * m + i) % 16 = i by omega, if_pos ⟨h1, h2⟩]
  rw [show (List.range 16).flatMap (fun i => dk n LL PP (16 * m + i)) = (List.range 16).flatMap (fun i => ((PP m)[i]?.map (fun p => rl p (LL m))).toList) from by
    rw [List.flatMap_def, List.flatMap_def, List.map_congr_left this]]
  rw [row_list, List.take_of_length_le hl]
theorem dk_off {n m : Nat} {LL : Nat → List Ent} {PP : Nat → List (List Nat)} (h2 : n < m) : (List.range' (16 * m) 16).flatMap (dk n LL PP) = [] := by
  refine List.flatMap_eq_nil_iff.mpr (fun r hr => ?_)
  obtain ⟨a, b⟩ := List.mem_range'_1.mp hr
  exact dk_no (Or.inl (by omega))
section KP
variable {n : Nat} {LL KL : Nat → List Ent} {PP : Nat → List (List Nat)}
theorem seg (hk : ∀ m, 1 ≤ m → m ≤ n → Srt (LL m) ∧ (PP m).Nodup ∧ Cpl (LL m) (PP m) ∧ (PP m).length ≤ 16) (he : ∀ i, i < n → LL (i + 1) = KL i) {i : Nat} (hi : i < n) : ((List.range' (16 * (i + 1)) 16).flatMap (dk n LL PP)).Perm (kd (KL i)) := by
  obtain ⟨a, b, c, d⟩ := hk (i + 1) (by omega) (by omega)
  rw [dk_row (by omega) (by omega) d, ← he i hi]
  exact ps_kinds a b c
theorem kinds_perm (hk : ∀ m, 1 ≤ m → m ≤ n → Srt (LL m) ∧ (PP m).Nodup ∧ Cpl (LL m) (PP m) ∧ (PP m).length ≤ 16) (he : ∀ i, i < n → LL (i + 1) = KL i) : ∀ q, q ≤ n → ((List.range' 16 (16 * q)).flatMap (dk n LL PP)).Perm (vsn KL q) := by
  intro q
  induction q with
  | zero => intro _; exact List.Perm.refl _
  | succ q ih =>
    intro hq
    have e : List.range' 16 (16 * (q + 1)) = List.range' 16 (16 * q) ++ List.range' (16 * (q + 1)) 16 := by
      rw [show 16 * (q + 1) = 16 + 16 * q by omega, List.range'_append_1, Nat.add_comm]
    rw [e, List.flatMap_append, vsn_succ]
    exact (ih (by omega)).append (seg hk he (by omega))
theorem kinds_all (hn : n ≤ 3) : (List.range' 16 48).flatMap (dk n LL PP) = (List.range' 16 (16 * n)).flatMap (dk n LL PP) := by
  have e : List.range' 16 48 = List.range' 16 (16 * n) ++ List.range' (16 + 16 * n) (48 - 16 * n) := by
    rw [List.range'_append_1]
    congr 1
    omega
  rw [e, List.flatMap_append]
  have : (List.range' (16 + 16 * n) (48 - 16 * n)).flatMap (dk n LL PP) = [] := by
    refine List.flatMap_eq_nil_iff.mpr (fun r hr => ?_)
    obtain ⟨a, b⟩ := List.mem_range'_1.mp hr
    exact dk_no (Or.inl (by omega))
  rw [this, List.append_nil]
theorem in_kinds {L : List Ent} (hL : Srt L) {P : List Nat} (h2 : 2 ≤ (rl P L).length) : brA (rl P L) ∈ kd L := by
  have h := (brs_all hL).mpr (isBr_brQ hL h2)
  obtain ⟨r, hr, e⟩ := List.mem_map.mp h
  unfold kd
  refine List.mem_map.mpr ⟨r, hr, ?_⟩
  rw [(brs_ok hL r hr).1, e, brA_rl hL]
/-- the sums of both sides -/
theorem uses_both (hn : n ≤ 3) (hk : ∀ m, 1 ≤ m → m ≤ n → Srt (LL m) ∧ (PP m).Nodup ∧ Cpl (LL m) (PP m) ∧ (PP m).length ≤ 16) (he : ∀ i, i < n → LL (i + 1) = KL i) (d : Int64) : fsum (fun B => if dg B = d then UU n LL ((List.range' 16 48).flatMap (dk n LL PP)) B else 0) [] ((List.range' 16 48).flatMap (dk n LL PP)) = ((List.range n).map (fun q => tt d (KL q))).sum + fsum (TT d) [] (vsn KL n) := by
  have hp := kinds_perm hk he n (Nat.le_refl _)
  have hL : ∀ i, i < n → Srt (KL i) := fun i hi => by rw [← he i hi]; exact (hk (i + 1) (by omega) (by omega)).1
  rw [kinds_all hn, uses_sum, fsum_perm hp]
  · congr 1
    have e : List.range' 1 n = (List.range n).map (fun i => 1 + i) := by
      rw [List.range_eq_range', List.map_add_range']
    rw [e, List.map_map]
    congr 1
    refine List.map_congr_left (fun i hi => ?_)
    show tt d (LL (1 + i)) = tt d (KL i)
    rw [Nat.add_comm, he i (List.mem_range.mp hi)]
  · intro m h1 h2 h3
    refine hp.mem_iff.mpr (mem_vsn.mpr ⟨m - 1, by omega, ?_⟩)
    have e := he (m - 1) (by omega)
    rw [show m - 1 + 1 = m by omega] at e
    rw [← e]
    have := in_kinds (P := []) (hk m h1 h2).1 (by rw [rl_nil]; exact h3)
    rw [rl_nil] at this
    exact this
  · intro A hA c hc h3
    obtain ⟨i, hi, hA⟩ := mem_vsn.mp (hp.mem_iff.mp hA)
    refine hp.mem_iff.mpr (mem_vsn.mpr ⟨i, hi, ?_⟩)
    unfold kd at hA
    obtain ⟨r, hr, e⟩ := List.mem_map.mp hA
    have o := (brs_ok (hL i hi) r hr).1
    rw [← e, o, sub_rl] at h3 ⊢
    exact in_kinds (hL i hi) h3
end KP
