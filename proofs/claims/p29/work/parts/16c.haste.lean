/-! The order of the jobs may change: what is kept of a shop but the order. -/
def iU (A : Ab) (c N T : Nat) : Prop := okN A c ∧ (∀ k, k < c → ∃ m, A (13 + k) 0 = nI m ∧ m < N) ∧ A 0 6 = nI N ∧ N < 1000000 ∧ (∀ k l, k < c → l < c → A (13 + k) 0 = A (13 + l) 0 → k = l) ∧ (∀ k, k < c → ∃ p m u, A (13 + k) 3 = nI p ∧ A (13 + k) 4 = nI m ∧ A (13 + k) 5 = nI u ∧ m < p ∧ p ≤ 40 ∧ u ≤ 9999) ∧ iC A c ∧ iL A c ∧ iB A c ∧ iD A ∧ iS A ∧ iH A T
section UN
variable {A A' : Ab} {c N T : Nat}
theorem Iv.un (h : Iv A c N T) : iU A c N T := by
  obtain ⟨⟨j1, j2, j3, j4, j5, j6, j7⟩, e, l, b, d, s, t⟩ := h
  exact ⟨j1, j3, j4, j5, j6, j7, e, l, b, d, s, t⟩
theorem iU.iv (h : iU A c N T) (hs : srt A c) : Iv A c N T := by
  obtain ⟨j1, j3, j4, j5, j6, j7, e, l, b, d, s, t⟩ := h
  exact ⟨⟨j1, hs, j3, j4, j5, j6, j7⟩, e, l, b, d, s, t⟩
theorem iU.six (h : iU A c N T) {k : Nat} (hk : k < c) {z : Bool} : iU (aU A (13 + k) 6 (bI z)) c N T := by
  obtain ⟨j1, j3, j4, j5, j6, j7, e, l, b, d, s, t⟩ := h
  have hc := j1.2.1
  have o : ∀ r f, ¬ (13 ≤ r ∧ r < 23 ∧ f = 6) → aU A (13 + k) 6 (bI z) r f = A r f := fun r f h => up_o (by omega)
  have cb : ∀ i, i < c → bc (aU A (13 + k) 6 (bI z)) i = bc A i := fun i hi => bc_congr (fun p hp => o _ _ (by omega)) (o _ _ (by omega))
  refine ⟨⟨(o _ _ (by omega)).trans j1.1, hc, fun i hi => ?_⟩, fun i hi => ?_, (o _ _ (by omega)).trans j4, j5, fun i i' hi hi' q => ?_, fun i hi => ?_, fun i hi => ?_, fun i hi => ?_, ⟨fun p hp => ?_, fun p hp => ?_⟩, ⟨fun i hi => ?_, fun i i' hi hi' h1 h2 => ?_⟩, ?_, fun i hi => ?_⟩
  · rw [o _ 1 (by omega), o _ 2 (by omega)]
    refine ⟨(j1.2.2 i hi).1, (j1.2.2 i hi).2.1, ?_⟩
    by_cases q : i = k
    · subst q; rw [up_s]; cases z <;> simp [bI]
    · rw [up_r (by omega)]; exact (j1.2.2 i hi).2.2
  · rw [o _ _ (by omega)]; exact j3 i hi
  · rw [o _ _ (by omega), o _ _ (by omega)] at q; exact j6 i i' hi hi' q
  · rw [o _ _ (by omega), o _ _ (by omega), o _ _ (by omega)]; exact j7 i hi
  · rw [o _ _ (by omega)]
    exact (e.bc hi).trans (by rw [← cb i hi]; rfl)
  · obtain ⟨p, m, f1, f2, f3, f4⟩ := l i hi
    exact ⟨p, m, (o _ _ (by omega)).trans f1, (o _ _ (by omega)).trans f2, f3, by rw [cb i hi]; exact f4⟩
  · rw [o _ _ (by omega), o _ _ (by omega)]
    rcases b.1 p hp with y | ⟨⟨i, hi, y⟩, w⟩
    · exact Or.inl y
    · exact Or.inr ⟨⟨i, hi, by rw [o _ _ (by omega)]; exact y⟩, w⟩
  · rw [o _ _ (by omega)]; exact b.2 p hp
  · rw [o _ _ (by omega), o _ _ (by omega), o _ _ (by omega)]; exact d.1 i hi
  · rw [o _ _ (by omega)] at h1 h2
    exact d.2 i i' hi hi' h1 h2
  · unfold iS
    rw [o _ _ (by omega), o _ _ (by omega), o _ _ (by omega), o _ _ (by omega)]; exact s
  · rw [o _ _ (by omega), o _ _ (by omega), o _ _ (by omega)]; exact t i hi
theorem iU.rows (h : iU A c N T) {ρ : Nat → Nat} (h1 : ∀ k, k < c → ρ k < c) (h2 : ∀ k l, k < c → l < c → ρ k = ρ l → k = l) (h3 : ∀ i, i < c → ∃ k, k < c ∧ ρ k = i) : iU (rowsP A ρ) c N T := by
  obtain ⟨j1, j3, j4, j5, j6, j7, e, l, b, d, s, t⟩ := h
  have hc := j1.2.1
  have o : ∀ r, ¬ (13 ≤ r ∧ r < 23) → rowsP A ρ r = A r := fun r h => rowsP_o h
  have J : ∀ i, i < c → rowsP A ρ (13 + i) = A (13 + ρ i) := fun i hi => rowsP_J (by omega)
  have cb : ∀ i, i < c → bc (rowsP A ρ) i = bc A (ρ i) := fun i hi => by
    unfold bc bcF
    rw [J i hi]
    exact cntN_congr fun p hp => by
      show decide (rowsP A ρ (24 + p) 0 = _) = decide (A (24 + p) 0 = _)
      rw [o _ (by omega)]
  refine ⟨⟨by rw [o _ (by omega)]; exact j1.1, hc, fun i hi => ?_⟩, fun i hi => ?_, by rw [o _ (by omega)]; exact j4, j5, fun i i' hi hi' q => ?_, fun i hi => ?_, fun i hi => ?_, fun i hi => ?_, ⟨fun p hp => ?_, fun p hp => ?_⟩, ⟨fun i hi => ?_, fun i i' hi hi' g1 g2 => ?_⟩, ?_, fun i hi => ?_⟩
  · rw [J i hi]; exact j1.2.2 _ (h1 i hi)
  · rw [J i hi]; exact j3 _ (h1 i hi)
  · rw [J i hi, J i' hi'] at q
    exact h2 i i' hi hi' (j6 _ _ (h1 i hi) (h1 i' hi') q)
  · rw [J i hi]; exact j7 _ (h1 i hi)
  · show rowsP A ρ (13 + i) 7 = nI (bc (rowsP A ρ) i)
    rw [cb i hi, J i hi]; exact e.bc (h1 i hi)
  · obtain ⟨p, m, f1, f2, f3, f4⟩ := l _ (h1 i hi)
    exact ⟨p, m, by rw [J i hi]; exact f1, by rw [J i hi]; exact f2, f3, by rw [cb i hi]; exact f4⟩
  · rw [o _ (by omega)]
    rcases b.1 p hp with y | ⟨⟨i, hi, y⟩, w⟩
    · exact Or.inl y
    · obtain ⟨k, hk, ek⟩ := h3 i hi
      exact Or.inr ⟨⟨k, hk, by rw [J k hk, ek]; exact y⟩, w⟩
  · rw [o _ (by omega)]; exact b.2 p hp
  · rw [o _ (by omega)]; exact d.1 i hi
  · rw [o _ (by omega)] at g1 g2
    exact d.2 i i' hi hi' g1 g2
  · unfold iS
    rw [o _ (by omega)]; exact s
  · rw [o _ (by omega)]; exact t i hi
theorem mv_perm {k p c : Nat} (hk : k < c) (hp : p < c) : (∀ i, i < c → mv k p i < c) ∧ (∀ i l, i < c → l < c → mv k p i = mv k p l → i = l) ∧ ∀ i, i < c → ∃ j, j < c ∧ mv k p j = i := by
  refine ⟨fun i hi => ?_, fun i l hi hl e => ?_, fun i hi => ⟨mv p k i, ?_, ?_⟩⟩
  · unfold mv; split
    · exact hk
    · split
      · omega
      · split <;> omega
  · unfold mv at e
    repeat' split at e
    all_goals omega
  · unfold mv; split
    · exact hp
    · split
      · omega
      · split <;> omega
  · unfold mv
    repeat' split
    all_goals omega
theorem iU.moved (h : iU A c N T) {k p : Nat} (hk : k < c) (hp : p < c) : iU (rowsP A (mv k p)) c N T := by
  obtain ⟨h1, h2, h3⟩ := mv_perm hk hp
  exact h.rows h1 h2 h3
end UN
