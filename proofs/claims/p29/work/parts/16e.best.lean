/-! The best number of reheats: the class. -/
section BE
variable {B M : Mem} {π π' : Nat → Nat} {A E : Ab} {c N T : Nat}
theorem Iv.setting (h : Iv A c N T) {i : Nat} (hi : i < 4) {v : Int32} (hs : iS (aU A 0 (7 + i) v)) : Iv (aU A 0 (7 + i) v) c N T := by
  have hc := h.1.1.2.1
  obtain ⟨j, e, l, b, d, s, t⟩ := h
  have o : ∀ r f, ¬ (r = 0 ∧ f = 7 + i) → aU A 0 (7 + i) v r f = A r f := fun r f h => up_o h
  refine ⟨j.congr (fun f hf => o _ _ (by omega)) (fun k hk f hf => o _ _ (by omega)), fun k hk => ?_, fun k hk => ?_, ⟨fun p hp => ?_, fun p hp => ?_⟩, ⟨fun q hq => ?_, fun q q' hq hq' h1 h2 => ?_⟩, hs, fun q hq => ?_⟩
  · rw [o _ _ (by omega)]
    have := bc_congr (A' := aU A 0 (7 + i) v) (A := A) (k := k) (fun p hp => o _ _ (by omega)) (o _ _ (by omega))
    exact (e.bc hk).trans (by rw [← this]; rfl)
  · obtain ⟨p, m, e1, e2, e3, e4⟩ := l k hk
    exact ⟨p, m, (o _ _ (by omega)).trans e1, (o _ _ (by omega)).trans e2, e3, by rw [bc_congr (A := A) (fun p hp => o _ _ (by omega)) (o _ _ (by omega))]; exact e4⟩
  · rw [o _ _ (by omega), o _ _ (by omega)]
    rcases b.1 p hp with y | ⟨⟨k, hk, y⟩, w⟩
    · exact Or.inl y
    · exact Or.inr ⟨⟨k, hk, by rw [o _ _ (by omega)]; exact y⟩, w⟩
  · rw [o _ _ (by omega)]; exact b.2 p hp
  · rw [o _ _ (by omega), o _ _ (by omega), o _ _ (by omega)]; exact d.1 q hq
  · rw [o _ _ (by omega)] at h1 h2
    exact d.2 q q' hq hq' h1 h2
  · rw [o _ _ (by omega), o _ _ (by omega), o _ _ (by omega)]; exact t q hq
theorem made_nat (h : iH A T) : ∃ a, madeA A = nI a ∧ a ≤ 4 * T := by
  obtain ⟨s0, a0, b0, -, -, e0, h0, -⟩ := h 0 (by omega)
  obtain ⟨s1, a1, b1, -, -, e1, h1, -⟩ := h 1 (by omega)
  obtain ⟨s2, a2, b2, -, -, e2, h2, -⟩ := h 2 (by omega)
  obtain ⟨s3, a3, b3, -, -, e3, h3, -⟩ := h 3 (by omega)
  refine ⟨a0 + a1 + a2 + a3, ?_, by omega⟩
  show 0 + A (2 + 0) 3 + A (2 + 1) 3 + A (2 + 2) 3 + A (2 + 3) 3 = _
  rw [e0, e1, e2, e3, Int32.zero_add, nI_add, nI_add, nI_add]
theorem scrap_nat (h : iH A T) : ∃ a, scrapA A = nI a ∧ a ≤ 4 * T := by
  obtain ⟨s0, b0, a0, -, -, -, -, e0, h0⟩ := h 0 (by omega)
  obtain ⟨s1, b1, a1, -, -, -, -, e1, h1⟩ := h 1 (by omega)
  obtain ⟨s2, b2, a2, -, -, -, -, e2, h2⟩ := h 2 (by omega)
  obtain ⟨s3, b3, a3, -, -, -, -, e3, h3⟩ := h 3 (by omega)
  refine ⟨a0 + a1 + a2 + a3, ?_, by omega⟩
  show 0 + A (2 + 0) 4 + A (2 + 1) 4 + A (2 + 2) 4 + A (2 + 3) 4 = _
  rw [e0, e1, e2, e3, Int32.zero_add, nI_add, nI_add, nI_add]
end BE
