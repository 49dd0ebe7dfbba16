/-! The reference's saved states: it saves, puts aside, takes back. -/
theorem uI_a {M : Mem} {i k j : Nat} {v : Int32} (h : j ≠ i) : (uI M i k v).1 j = M.1 j := by funext l; exact uI_o (fun z => h z.1)
section SV
variable {M : Mem}
end SV
