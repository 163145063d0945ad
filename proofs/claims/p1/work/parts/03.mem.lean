/-! My own layer, first half: a typed memory (ints, longs, addresses by cell and place), the words of the pure functions. -/
abbrev Mm : Type := (Nat → Nat → Int32) × (Nat → Nat → Int64) × (Nat → Nat → Nat)
def gi (M : Mm) (a k : Nat) : Int32 := M.1 a k
def gl (M : Mm) (a k : Nat) : Int64 := M.2.1 a k
def gr (M : Mm) (a k : Nat) : Nat := M.2.2 a k
def si (M : Mm) (a k : Nat) (x : Int32) : Mm := (fun b j => if b = a ∧ j = k then x else M.1 b j, M.2)
def sl (M : Mm) (a k : Nat) (x : Int64) : Mm := (M.1, fun b j => if b = a ∧ j = k then x else M.2.1 b j, M.2.2)
def sr (M : Mm) (a k : Nat) (x : Nat) : Mm := (M.1, M.2.1, fun b j => if b = a ∧ j = k then x else M.2.2 b j)
/-- a loop's fuel, a recursion's depth -/
def FU : Nat := 4096
def RD : Nat := 8
/-- a place of an array of n places -/
def ix (i : Int32) (n : Nat) : Option Nat := if i < 0 ∨ n ≤ i.toNatClampNeg then none else some i.toNatClampNeg
def st {α β : Type} (a : α) (k : α → β) : β := k a
def imin (x y : Int32) : Int32 := if y < x then y else x
def imax (x y : Int32) : Int32 := if x < y then y else x
/-- System.arraycopy of ints -/
def cpI (G : Nat → Nat) (M : Mm) (a0 : Nat) (sp : Int32) (a : Nat) (dp n : Int32) : Option Mm :=
  if sp < 0 ∨ dp < 0 ∨ n < 0 ∨ G a0 < sp.toNatClampNeg + n.toNatClampNeg ∨ G a < dp.toNatClampNeg + n.toNatClampNeg then none
  else some (fun b j => if b = a then va_cpy (M.1 a0) (M.1 a) sp.toNatClampNeg dp.toNatClampNeg n.toNatClampNeg j else M.1 b j, M.2)
theorem ixE {i : Int32} {n j : Nat} (h : ix i n = some j) : vp_in i n ∧ i.toNatClampNeg = j := by
  unfold ix at h
  by_cases c : i < 0 ∨ n ≤ i.toNatClampNeg
  · rw [if_pos c] at h; cases h
  · rw [if_neg c] at h; exact ⟨c, Option.some.inj h⟩
theorem stE {α β : Type} {a : α} {k : α → β} {r : β} (h : st a k = r) : ∃ x, x = a ∧ k x = r := ⟨a, rfl, h⟩
theorem stA {α β : Type} {a x : α} {k : α → β} {r : β} (h : st a k = r) (e : x = a) : k x = r := by rw [e]; exact h
theorem ob {α β : Type} {o : Option α} {f : α → Option β} {r : β} (h : o.bind f = some r) : ∃ x, o = some x ∧ f x = some r := Option.bind_eq_some_iff.mp h
theorem ifP {α : Type} {c : Prop} [Decidable c] {a b r : α} (h : (if c then a else b) = r) (hc : c) : a = r := by rw [if_pos hc] at h; exact h
theorem ifN {α : Type} {c : Prop} [Decidable c] {a b r : α} (h : (if c then a else b) = r) (hc : ¬ c) : b = r := by rw [if_neg hc] at h; exact h
