/-! The text: the reference reads a part. -/
def topN (hi : Nat) : Nat := if 9 ≤ hi then 57 else 48 + hi
def num (cd : Nat → Nat) (b lo hi a : Nat) : Option (Nat × Nat) := if a < b ∧ 48 + lo ≤ cd a ∧ cd a ≤ topN hi then some (numL cd hi (b - (a + 1)) (cd a - 48) (a + 1)) else none
/-- where the part ends or fails, and what it tells -/
section RPT
variable {C : Mem} {r : Nat → Int32} {cd : Nat → Nat} {b a : Nat}
end RPT
