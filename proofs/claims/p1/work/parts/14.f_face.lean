/-! pure functions, one a method, by program out of the bytecode -/
def f_NT_put (G : Nat → Nat) (v0 : Nat) (v1 : Int32) (v2 : Int32) (M : Mm) : Option (Int32 × Mm) := if (f_PA_isNumber (v1.toInt64)) = 0 then (some (0, M)) else ((f_TR_change G (gr M v0 0) v1 v2 M).bind fun q3 => some (q3.1, q3.2))
def f_NT_get (G : Nat → Nat) (v0 : Nat) (v1 : Int32) (M : Mm) : Option (Int32) := (f_PM_valueOf G (gr M (gr M v0 0) 0) v1 M).bind fun q3 => some q3
def f_NT_size (G : Nat → Nat) (v0 : Nat) (M : Mm) : Int32 := (gi M (gr M (gr M v0 0) 0) 2)
def f_NT_root (G : Nat → Nat) (v0 : Nat) (M : Mm) : Option (Int64 × Mm) := (f_TR_rootNumber G (gr M v0 0) M).bind fun q2 => some (q2.1, q2.2)
def f_NT_count (G : Nat → Nat) (v0 : Nat) (v1 : Int32) (M : Mm) : Int32 := if v1 = 0 then ((gi M (gr M v0 0) 1)) else if v1 = 1 then ((gi M (gr M v0 0) 2)) else if v1 = 2 then ((gi M (gr M v0 0) 3)) else ((-1))
def f_NT_isAmongVersions_3 (G : Nat → Nat) : Nat → Nat → Int32 → Nat → Int32 → Int32 → Mm → Option (Int32)
  | 0, _, _, _, _, _, _ => none
  | n + 1, v0, v1, v2, v3, v4, M => if v1 ≤ v4 then (some 0) else ((ix v4 (G (gr M v0 1))).bind fun j2 => (ix v4 (G (gr M v0 1))).bind fun j5 => (f_TR_hasAmongFirst G (gr M (gr M v0 1) j2) (gi M (gr M (gr M v0 1) j5) 3) v2 v3 M).bind fun q7 => if q7 = 0 then (f_NT_isAmongVersions_3 G n v0 v1 v2 v3 (v4 + 1) M) else (some 1))
def f_NT_isAmongVersions (G : Nat → Nat) (v0 : Nat) (v1 : Int32) (v2 : Nat) (v3 : Int32) (M : Mm) : Option (Int32) := f_NT_isAmongVersions_3 G FU v0 v1 v2 v3 0 M
def f_NT_branchesToWrite_4 (G : Nat → Nat) : Nat → Nat → Int32 → Int32 → Mm → Option (Int32)
  | 0, _, _, _, _ => none
  | n + 1, v0, v1, v2, M => if (gi M (gr M v0 0) 3) ≤ v2 then (some v1) else ((f_TR_hasAmongFirst G (gr M v0 0) v2 (gr M v0 0) v2 M).bind fun q4 => if q4 = 0 then ((f_NT_isAmongVersions G v0 (gi M v0 2) (gr M v0 0) v2 M).bind fun q7 => if q7 = 0 then (f_NT_branchesToWrite_4 G n v0 (v1 + 1) (v2 + 1) M) else (f_NT_branchesToWrite_4 G n v0 v1 (v2 + 1) M)) else (f_NT_branchesToWrite_4 G n v0 v1 (v2 + 1) M))
def f_NT_branchesToWrite (G : Nat → Nat) (v0 : Nat) (M : Mm) : Option (Int32) := f_NT_branchesToWrite_4 G FU v0 0 0 M
def f_NT_goDown (G : Nat → Nat) (v0 : Nat) (M : Mm) : Option (Mm) := (ix 0 (G (gr M v0 1))).bind fun j3 => (f_TR_becomeLike G (gr M v0 0) (gr M (gr M v0 1) j3) M).bind fun q5 => some q5
def f_NT_keepWorking_17 (G : Nat → Nat) : Nat → Nat → Nat → Int32 → Mm → Option (Mm)
  | 0, _, _, _, _ => none
  | n + 1, v0, v2, v3, M => if v3 ≤ 0 then ((ix 0 (G (gr M v0 1))).bind fun j2 => st (sr M (gr M v0 1) j2 v2) fun M3 => (f_TR_becomeLike G v2 (gr M3 v0 0) M3).bind fun q5 => st (si q5 v0 2 (imin ((gi q5 v0 2) + 1) (Int32.ofNat (G (gr q5 v0 1))))) fun M7 => some M7) else ((ix (v3 - 1) (G (gr M v0 1))).bind fun j10 => (ix v3 (G (gr M v0 1))).bind fun j12 => st (sr M (gr M v0 1) j12 (gr M (gr M v0 1) j10)) fun M13 => f_NT_keepWorking_17 G n v0 v2 (v3 + (-1)) M13)
def f_NT_keepWorking (G : Nat → Nat) (v0 : Nat) (M : Mm) : Option (Mm) := st ((Int32.ofNat (G (gr M v0 1))) - 1) fun x2 => (ix x2 (G (gr M v0 1))).bind fun j4 => f_NT_keepWorking_17 G FU v0 (gr M (gr M v0 1) j4) x2 M
def f_NT_commit (G : Nat → Nat) (v0 : Nat) (v1 : Int32) (M : Mm) : Option (Int32 × Mm) := (f_NT_branchesToWrite G v0 M).bind fun q1 => if (q1 + 1) ≤ v1 then ((f_NT_keepWorking G v0 M).bind fun q2 => some (q1, q2)) else ((f_NT_goDown G v0 M).bind fun q3 => some ((-1), q3))
def f_NT_crash (G : Nat → Nat) (v0 : Nat) (M : Mm) : Option (Int32 × Mm) := (f_NT_goDown G v0 M).bind fun q1 => some ((gi q1 (gr q1 (gr q1 v0 0) 0) 2), q1)
def f_NT_versions (G : Nat → Nat) (v0 : Nat) (M : Mm) : Int32 := (gi M v0 2)
def f_NT_isKept (G : Nat → Nat) (v0 : Nat) (v1 : Int32) (M : Mm) : Int32 := if v1 < 0 then (0) else (if (gi M v0 2) ≤ v1 then (0) else (1))
def f_NT_at (G : Nat → Nat) (v0 : Nat) (v1 : Int32) (v2 : Int32) (M : Mm) : Option (Int32) := if (f_NT_isKept G v0 v1 M) = 0 then (some 0) else ((ix v1 (G (gr M v0 1))).bind fun j3 => (f_PM_valueOf G (gr M (gr M (gr M v0 1) j3) 0) v2 M).bind fun q6 => some q6)
def f_NT_rootAt (G : Nat → Nat) (v0 : Nat) (v1 : Int32) (M : Mm) : Option (Int64 × Mm) := if (f_NT_isKept G v0 v1 M) = 0 then (some (0, M)) else ((ix v1 (G (gr M v0 1))).bind fun j3 => (f_TR_rootNumber G (gr M (gr M v0 1) j3) M).bind fun q5 => some (q5.1, q5.2))
def f_NT_isFirstOfItsKind (G : Nat → Nat) (v0 : Nat) (v1 : Int32) (v2 : Int32) (M : Mm) : Option (Int32) := (ix v1 (G (gr M v0 1))).bind fun j2 => (f_NT_isAmongVersions G v0 v1 (gr M (gr M v0 1) j2) v2 M).bind fun q4 => if q4 = 0 then ((ix v1 (G (gr M v0 1))).bind fun j7 => (ix v1 (G (gr M v0 1))).bind fun j10 => (f_TR_hasAmongFirst G (gr M (gr M v0 1) j7) v2 (gr M (gr M v0 1) j10) v2 M).bind fun q12 => if q12 = 0 then (some 1) else (some 0)) else (some 0)
def f_NT_stored_14 (G : Nat → Nat) (k4 : Nat → Int32 → Int32 → Mm → Option (Int32)) : Nat → Nat → Int32 → Int32 → Int32 → Mm → Option (Int32)
  | 0, _, _, _, _, _ => none
  | n + 1, v0, v1, v2, v3, M => (ix v2 (G (gr M v0 1))).bind fun j2 => if (gi M (gr M (gr M v0 1) j2) 3) ≤ v3 then (k4 v0 v1 (v2 + 1) M) else ((f_NT_isFirstOfItsKind G v0 v2 v3 M).bind fun q4 => if q4 = 0 then (f_NT_stored_14 G k4 n v0 v1 v2 (v3 + 1) M) else (f_NT_stored_14 G k4 n v0 (v1 + 1) v2 (v3 + 1) M))
def f_NT_stored_4 (G : Nat → Nat) : Nat → Nat → Int32 → Int32 → Mm → Option (Int32)
  | 0, _, _, _, _ => none
  | n + 1, v0, v1, v2, M => if (gi M v0 2) ≤ v2 then (some v1) else (f_NT_stored_14 G (fun y0 y1 y2 M => f_NT_stored_4 G n y0 y1 y2 M) FU v0 v1 v2 0 M)
def f_NT_stored (G : Nat → Nat) (v0 : Nat) (M : Mm) : Option (Int32) := f_NT_stored_4 G FU v0 0 0 M
def f_NT_isUse (G : Nat → Nat) (v0 : Nat) (v1 : Int32) (v2 : Int32) (M : Mm) : Option (Int32) := (ix v1 (G (gr M v0 1))).bind fun j2 => (ix v2 (G (gr M (gr M (gr M v0 1) j2) 4))).bind fun j5 => st (gi M (gr M (gr M (gr M v0 1) j2) 4) j5) fun x6 => if x6 = (-1) then (some 1) else ((f_NT_isFirstOfItsKind G v0 v1 x6 M).bind fun q7 => if q7 = 0 then (some 0) else (some 1))
def f_NT_uses_17 (G : Nat → Nat) (k5 : Nat → Int64 → Int32 → Int32 → Mm → Option (Int32 × Mm)) : Nat → Nat → Int64 → Int32 → Int32 → Int32 → Mm → Option (Int32 × Mm)
  | 0, _, _, _, _, _, _ => none
  | n + 1, v0, v1, v3, v4, v5, M => (ix v4 (G (gr M v0 1))).bind fun j2 => if (gi M (gr M (gr M v0 1) j2) 3) ≤ v5 then (k5 v0 v1 v3 (v4 + 1) M) else ((f_NT_isUse G v0 v4 v5 M).bind fun q4 => if q4 = 0 then (f_NT_uses_17 G k5 n v0 v1 v3 v4 (v5 + 1) M) else ((ix v4 (G (gr M v0 1))).bind fun j7 => (f_TR_digestOf G (gr M (gr M v0 1) j7) v5 M).bind fun q9 => if (lg_cmp q9.1 v1) = 0 then (f_NT_uses_17 G k5 n v0 v1 (v3 + 1) v4 (v5 + 1) q9.2) else (f_NT_uses_17 G k5 n v0 v1 v3 v4 (v5 + 1) q9.2)))
def f_NT_uses_5 (G : Nat → Nat) : Nat → Nat → Int64 → Int32 → Int32 → Mm → Option (Int32 × Mm)
  | 0, _, _, _, _, _ => none
  | n + 1, v0, v1, v3, v4, M => if (gi M v0 2) ≤ v4 then (some (v3, M)) else (f_NT_uses_17 G (fun y0 y1 y3 y4 M => f_NT_uses_5 G n y0 y1 y3 y4 M) FU v0 v1 v3 v4 0 M)
def f_NT_uses (G : Nat → Nat) (v0 : Nat) (v1 : Int64) (M : Mm) : Option (Int32 × Mm) := f_NT_uses_5 G FU v0 v1 0 0 M
def f_NT_prove (G : Nat → Nat) (v0 : Nat) (v1 : Int32) (v2 : Int32) (M : Mm) : Option (Int32 × Mm) := if (f_NT_isKept G v0 v1 M) = 0 then (some ((-1), M)) else (if (f_PA_isNumber (v2.toInt64)) = 0 then (some ((-1), M)) else ((ix v1 (G (gr M v0 1))).bind fun j5 => (f_TR_writeProof G (gr M (gr M v0 1) j5) v2 (gr M (gr M v0 3) 0) M).bind fun q9 => st (si q9.2 (gr M v0 3) 1 q9.1) fun M10 => some ((gi M10 (gr M10 v0 3) 1), M10)))
def f_NT_word (G : Nat → Nat) (v0 : Nat) (v1 : Int32) (M : Mm) : Option (Int64) := if (f_PF_has G (gr M v0 3) v1 M) = 0 then (some 0) else ((ix v1 (G (gr M (gr M v0 3) 0))).bind fun j5 => some (gl M (gr M (gr M v0 3) 0) j5))
def f_NT_alter (G : Nat → Nat) (v0 : Nat) (v1 : Int32) (v2 : Int64) (M : Mm) : Option (Int32 × Mm) := if (f_PF_has G (gr M v0 3) v1 M) = 0 then (some (0, M)) else ((ix v1 (G (gr M (gr M v0 3) 0))).bind fun j5 => st (sl M (gr M (gr M v0 3) 0) j5 v2) fun M6 => some (1, M6))
def f_NT_cut (G : Nat → Nat) (v0 : Nat) (M : Mm) : Int32 × Mm := if (gi M (gr M v0 3) 1) ≤ 0 then (((gi M (gr M v0 3) 1), M)) else (st (si M (gr M v0 3) 1 ((gi M (gr M v0 3) 1) - 1)) fun M4 => ((gi M4 (gr M4 v0 3) 1), M4))
def f_NT_verify (G : Nat → Nat) (v0 : Nat) (v1 : Int64) (v3 : Int32) (v4 : Int32) (M : Mm) : Option (Int32 × Mm) := if (f_PA_isNumber (v3.toInt64)) = 0 then (some (0, M)) else ((f_PF_shows G (gr M v0 3) v1 v3 (v4.toInt64) M).bind fun q3 => if q3.1 = 0 then (some (0, q3.2)) else (some (1, q3.2)))
