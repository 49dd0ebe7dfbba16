/-! The first state: the reference; the law's pure part. -/
theorem A0_iv : Iv A0 0 0 0 := by
  have d0 : ∀ d, d < 5 → A0 (7 + d) 0 = 3 ∧ A0 (7 + d) 1 = 60 ∧ A0 (7 + d) 3 = 0 := fun d hd => by
    rw [A0_d (by omega), A0_d (by omega), A0_d (by omega)]
    exact ⟨rfl, rfl, rfl⟩
  have b0 : ∀ p, p < 7 → A0 (24 + p) 0 = -1 ∧ A0 (24 + p) 1 = 0 := fun p hp => by
    rw [A0_b (by omega), A0_b (by omega)]
    exact ⟨rfl, rfl⟩
  have h0 : ∀ h, h < 4 → A0 (2 + h) 0 = 0 ∧ A0 (2 + h) 3 = 0 ∧ A0 (2 + h) 4 = 0 := fun h hh => by
    rw [A0_h (by omega), A0_h (by omega), A0_h (by omega)]
    exact ⟨rfl, rfl, rfl⟩
  refine ⟨⟨⟨rfl, by omega, fun k hk => by omega⟩, fun a b _ hb => by omega, fun k hk => by omega, rfl, by omega, fun k l hk => by omega, fun k hk => by omega⟩, fun k hk => by omega, fun k hk => by omega, ⟨fun p hp => Or.inl (b0 p hp).1, fun p hp => ⟨0, (b0 p hp).2, by omega⟩⟩, ⟨fun d hd => ⟨3, 60, 0, (d0 d hd).1, by omega, by omega, (d0 d hd).2.1, by omega, (d0 d hd).2.2, by omega⟩, fun d e hd he h1 h2 => ?_⟩, ⟨150, 40, 1, 5, rfl, by omega, rfl, by omega, rfl, by omega, rfl, by omega, by omega⟩, fun h hh => ⟨0, 0, 0, (h0 h hh).1, by omega, (h0 h hh).2.1, by omega, (h0 h hh).2.2, by omega⟩⟩
  rw [(d0 d hd).2.2] at h1
  exact absurd h1 (by decide)
