/-! the class's reader: a machine over tokens -/
abbrev AS : Type := Int32 × Int32 × Int32 × Int32 × Int32 × Int32
abbrev CS : Type := AS × (Nat → Int64) × (Nat → Int32) × Nat
def bodH (kd bd x : Int32) : Bool := if kd = 12 then decide (0 < x) else if kd = 13 then (x &&& 1 == 1) else !(decide (bd < x))
def modB (kd bd pp pn : Int32) : Nat → Int64
  | 0 => 0
  | a + 1 => if bodH kd bd (bcI (nI a &&& pp) + bcI (notI (nI a) &&& pn)) = true then modB kd bd pp pn a ||| 1 <<< ((nI a : Int32).toInt64 &&& 63) else modB kd bd pp pn a
def acK (tk : Int32) (z : CS) : Bool × CS :=
  if tk = 12 ∨ tk = 13 ∨ tk = 14 then (true, ((if tk = 14 then 2 else 3, tk, z.1.2.2.1, z.1.2.2.2.1, z.1.2.2.2.2.1, z.1.2.2.2.2.2), z.2)) else (false, z)
def acB (tk : Int32) (z : CS) : Bool × CS := if 6 < tk then (false, z) else (true, ((3, z.1.2.1, tk, z.1.2.2.2.1, z.1.2.2.2.2.1, z.1.2.2.2.2.2), z.2))
def vbI (tk : Int32) : Int32 := 1 <<< ((tk - 1) &&& 31)
def acV (tk : Int32) (ng : Bool) (z : CS) : Bool × CS :=
  if tk < 1 ∨ 6 < tk then (false, z)
  else if ¬ (z.1.2.2.2.2.1 ||| z.1.2.2.2.2.2) &&& vbI tk = 0 then (false, z)
  else if ng = true then (true, ((5, z.1.2.1, z.1.2.2.1, z.1.2.2.2.1, z.1.2.2.2.2.1, z.1.2.2.2.2.2 ||| vbI tk), z.2))
  else (true, ((5, z.1.2.1, z.1.2.2.1, z.1.2.2.2.1, z.1.2.2.2.2.1 ||| vbI tk, z.1.2.2.2.2.2), z.2))
def acL (tk : Int32) (z : CS) : Bool × CS := if tk = 10 then (true, ((4, z.1.2), z.2)) else acV tk false z
def acW (tk : Int32) (z : CS) : Bool × CS := if tk < 1 ∨ 9 < tk then (false, z) else (true, ((7, z.1.2.1, z.1.2.2.1, tk, z.1.2.2.2.2.1, z.1.2.2.2.2.2), z.2))
def acE (tk : Int32) (z : CS) : Bool × CS :=
  if tk = 11 then (true, ((0, z.1.2), va_up z.2.1 z.2.2.2 (modB z.1.2.1 z.1.2.2.1 z.1.2.2.2.2.1 z.1.2.2.2.2.2 64), va_up z.2.2.1 z.2.2.2 z.1.2.2.2.1, z.2.2.2 + 1)) else (false, z)
def acR (tk : Int32) (z : CS) : Bool × CS := if tk = 11 then acE tk z else if tk = 16 ∧ ¬ z.1.2.2.2.1 = 0 then (true, ((6, z.1.2), z.2)) else acL tk z
def acC (tk : Int32) (z : CS) : Bool × CS :=
  if 10 ≤ z.2.2.2 then (false, z)
  else if tk = 15 then (true, ((1, z.1.2.1, z.1.2.2.1, 0, 0, 0), z.2))
  else acK tk ((z.1.1, z.1.2.1, z.1.2.2.1, 1, 0, 0), z.2)
def acA (tk : Int32) (z : CS) : Bool × CS :=
  if z.1.1 = 0 then acC tk z else if z.1.1 = 1 then acK tk z else if z.1.1 = 2 then acB tk z else if z.1.1 = 3 then acL tk z else if z.1.1 = 4 then acV tk true z else if z.1.1 = 5 then acR tk z else if z.1.1 = 6 then acW tk z else acE tk z
theorem sw_out {x : Int32} (h0 : ¬ x = 0) (h1 : ¬ x = 1) (h2 : ¬ x = 2) (h3 : ¬ x = 3) (h4 : ¬ x = 4) (h5 : ¬ x = 5) (h6 : ¬ x = 6) : x.toInt < 0 ∨ 6 < x.toInt := by
  have g0 : x.toInt ≠ 0 := fun h => h0 (Int32.toInt_inj.mp h)
  have g1 : x.toInt ≠ 1 := fun h => h1 (Int32.toInt_inj.mp h)
  have g2 : x.toInt ≠ 2 := fun h => h2 (Int32.toInt_inj.mp h)
  have g3 : x.toInt ≠ 3 := fun h => h3 (Int32.toInt_inj.mp h)
  have g4 : x.toInt ≠ 4 := fun h => h4 (Int32.toInt_inj.mp h)
  have g5 : x.toInt ≠ 5 := fun h => h5 (Int32.toInt_inj.mp h)
  have g6 : x.toInt ≠ 6 := fun h => h6 (Int32.toInt_inj.mp h)
  omega
