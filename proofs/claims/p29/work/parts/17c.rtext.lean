/-! The text: the reference's signs and numbers. -/
def numL (cd : Nat → Nat) (hi : Nat) : Nat → Nat → Nat → Nat × Nat
  | 0, v, a => (v, a)
  | f + 1, v, a => if 0 < v ∧ 48 ≤ cd a ∧ cd a ≤ 57 ∧ 10 * v + (cd a - 48) ≤ hi then numL cd hi f (10 * v + (cd a - 48)) (a + 1) else (v, a)
section RTX
variable {C : Mem} {r : Nat → Int32} {cd : Nat → Nat} {b a : Nat}
end RTX
