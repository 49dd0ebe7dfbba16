/-! The reference warms, loads, moves, scraps. -/
section RMV
variable {B : Mem} {A A' : Ab} {c N : Nat} {m : Int32} {ι : Nat → Nat} {σ σ' : Nat → Int32}
theorem canCh_ref {A : Ab} {k : Nat} : canCh A k = true ↔ ¬ A (2 + hj A k) 0 ≤ 0 ∧ ¬ lackA A k ≤ 0 := by
  unfold canCh
  simp
end RMV
