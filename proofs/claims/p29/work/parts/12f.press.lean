/-! The reference: a job goes, a piece is made, the press works, dies are ground. -/
theorem aU_comm {A : Ab} {r f r' f' : Nat} {v v' : Int32} (h : ¬ (r = r' ∧ f = f')) : aU (aU A r f v) r' f' v' = aU (aU A r' f' v') r f v := by
  funext q g
  unfold aU
  by_cases h1 : q = r' ∧ g = f'
  · rw [if_pos h1, if_neg (fun z => h ⟨z.1.symm.trans h1.1, z.2.symm.trans h1.2⟩), if_pos h1]
  · rw [if_neg h1, if_neg h1]
theorem mvr {k c j : Nat} (hj : j < c - 1) : mv k (c - 1) j = if k ≤ j then j + 1 else j := by
  unfold mv
  (repeat' split) <;> omega
section RPR
variable {B : Mem} {A A' : Ab} {c N : Nat} {m : Int32} {ι : Nat → Nat} {σ σ' : Nat → Int32}
end RPR
