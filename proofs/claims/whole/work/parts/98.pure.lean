theorem pure_law (xs : Nat → Int32) {L : Nat} (hL : L ≤ 3072) : ∃ f : Nat, wp_L_law xs L f m_M0 := by
  sorry
