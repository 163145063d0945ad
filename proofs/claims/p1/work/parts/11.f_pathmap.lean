/-! pure functions, one a method, by program out of the bytecode -/
def f_PM_rowOf_2 (G : Nat → Nat) : Nat → Nat → Int32 → Int32 → Mm → Option (Int32)
  | 0, _, _, _, _ => none
  | n + 1, v0, v1, v2, M => if (gi M v0 2) ≤ v2 then (some (-1)) else ((ix v2 (G (gr M v0 0))).bind fun j2 => if (gi M (gr M v0 0) j2) = v1 then (some v2) else (f_PM_rowOf_2 G n v0 v1 (v2 + 1) M))
def f_PM_rowOf (G : Nat → Nat) (v0 : Nat) (v1 : Int32) (M : Mm) : Option (Int32) := f_PM_rowOf_2 G FU v0 v1 0 M
def f_PM_valueOf (G : Nat → Nat) (v0 : Nat) (v1 : Int32) (M : Mm) : Option (Int32) := (f_PM_rowOf G v0 v1 M).bind fun q1 => if q1 = (-1) then (some 0) else ((ix q1 (G (gr M v0 1))).bind fun j3 => some (gi M (gr M v0 1) j3))
def f_PM_insert_15 (G : Nat → Nat) : Nat → Nat → Int32 → Int32 → Int32 → Mm → Option (Mm)
  | 0, _, _, _, _, _ => none
  | n + 1, v0, v1, v2, v3, M => if v3 ≤ 0 then ((ix v3 (G (gr M v0 0))).bind fun j2 => st (si M (gr M v0 0) j2 v1) fun M3 => (ix v3 (G (gr M3 v0 1))).bind fun j5 => st (si M3 (gr M3 v0 1) j5 v2) fun M6 => st (si M6 v0 2 ((gi M6 v0 2) + 1)) fun M7 => some M7) else ((ix (v3 - 1) (G (gr M v0 0))).bind fun j9 => if (f_PA_order (gi M (gr M v0 0) j9)) ≤ (f_PA_order v1) then ((ix v3 (G (gr M v0 0))).bind fun j11 => st (si M (gr M v0 0) j11 v1) fun M12 => (ix v3 (G (gr M12 v0 1))).bind fun j14 => st (si M12 (gr M12 v0 1) j14 v2) fun M15 => st (si M15 v0 2 ((gi M15 v0 2) + 1)) fun M16 => some M16) else ((ix (v3 - 1) (G (gr M v0 0))).bind fun j19 => (ix v3 (G (gr M v0 0))).bind fun j20 => st (si M (gr M v0 0) j20 (gi M (gr M v0 0) j19)) fun M21 => (ix (v3 - 1) (G (gr M21 v0 1))).bind fun j24 => (ix v3 (G (gr M21 v0 1))).bind fun j25 => st (si M21 (gr M21 v0 1) j25 (gi M21 (gr M21 v0 1) j24)) fun M26 => f_PM_insert_15 G n v0 v1 v2 (v3 + (-1)) M26))
def f_PM_insert (G : Nat → Nat) (v0 : Nat) (v1 : Int32) (v2 : Int32) (M : Mm) : Option (Mm) := if (gi M v0 2) = 16 then (some M) else (f_PM_insert_15 G FU v0 v1 v2 (gi M v0 2) M)
def f_PM_remove_12 (G : Nat → Nat) : Nat → Nat → Int32 → Mm → Option (Mm)
  | 0, _, _, _ => none
  | n + 1, v0, v2, M => if (gi M v0 2) ≤ v2 then (some M) else ((ix (v2 + 1) (G (gr M v0 0))).bind fun j3 => (ix v2 (G (gr M v0 0))).bind fun j4 => st (si M (gr M v0 0) j4 (gi M (gr M v0 0) j3)) fun M5 => (ix (v2 + 1) (G (gr M5 v0 1))).bind fun j8 => (ix v2 (G (gr M5 v0 1))).bind fun j9 => st (si M5 (gr M5 v0 1) j9 (gi M5 (gr M5 v0 1) j8)) fun M10 => f_PM_remove_12 G n v0 (v2 + 1) M10)
def f_PM_remove (G : Nat → Nat) (v0 : Nat) (v1 : Int32) (M : Mm) : Option (Mm) := st (si M v0 2 ((gi M v0 2) - 1)) fun M1 => f_PM_remove_12 G FU v0 v1 M1
def f_PM_copy (G : Nat → Nat) (v0 : Nat) (v1 : Nat) (M : Mm) : Option (Mm) := st (si M v0 2 (gi M v1 2)) fun M1 => (cpI G M1 (gr M1 v1 0) 0 (gr M1 v0 0) 0 (gi M1 v0 2)).bind fun M4 => (cpI G M4 (gr M4 v1 1) 0 (gr M4 v0 1) 0 (gi M4 v0 2)).bind fun M7 => some M7
def f_PM_endsAt (G : Nat → Nat) (v0 : Nat) (v1 : Int32) (v2 : Int32) (M : Mm) : Option (Int32) := (ix v1 (G (gr M v0 0))).bind fun j2 => if (f_PA_length (gi M (gr M v0 0) j2)) = v2 then (some 1) else (some 0)
def f_PM_endOfChild_3 (G : Nat → Nat) : Nat → Nat → Int32 → Int32 → Int32 → Int32 → Mm → Option (Int32)
  | 0, _, _, _, _, _, _ => none
  | n + 1, v0, v2, v3, v4, v5, M => if v2 ≤ v5 then (some v5) else ((ix v5 (G (gr M v0 0))).bind fun j2 => if (f_PA_nibble (gi M (gr M v0 0) j2) v3) = v4 then (f_PM_endOfChild_3 G n v0 v2 v3 v4 (v5 + 1) M) else (some v5))
def f_PM_endOfChild (G : Nat → Nat) (v0 : Nat) (v1 : Int32) (v2 : Int32) (v3 : Int32) (v4 : Int32) (M : Mm) : Option (Int32) := f_PM_endOfChild_3 G FU v0 v2 v3 v4 v1 M
