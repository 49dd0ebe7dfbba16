/-! The reference's looks at billets and dies. -/
section RLK2
variable {B : Mem} {A : Ab} {c N : Nat} {m : Int32} {ι : Nat → Nat} {σ : Nat → Int32}
theorem iJ.num {A : Ab} {c N : Nat} (hI : iJ A c N) {k : Nat} (hk : k < c) : A (13 + k) 0 ≠ -1 := by
  obtain ⟨n, e, hn⟩ := hI.2.2.1 k hk
  have := hI.2.2.2.2.1
  rw [e]
  exact nI_n1 (by omega)
theorem plB_iff {A : Ab} {c N : Nat} (hI : iJ A c N) {k p : Nat} (hk : k < c) : plB A c p = some k ↔ A (24 + p) 0 = A (13 + k) 0 := by
  unfold plB
  constructor
  · intro h
    split at h
    · cases h
    · have := (fst9_some h).2.2.1
      simp only [decide_eq_true_eq] at this
      exact this.symm
  · intro h
    rw [if_neg (by rw [h]; exact hI.num hk), h]
    cases q : placeA A c (A (13 + k) 0) with
    | none =>
      have := fst9_none q k (by omega) (by omega)
      simp at this
    | some l =>
      obtain ⟨-, hl, e, -⟩ := fst9_some q
      simp only [decide_eq_true_eq] at e
      rw [hI.2.2.2.2.2.1 l k (by omega) hk e]
theorem groundA_iff (hD : iD A) {d : Nat} (hd : d < 5) : groundA A = some d ↔ 0 < A (7 + d) 3 := by
  constructor
  · intro h
    have := (fst9_some h).2.2.1
    simp only [Bool.not_eq_true', decide_eq_false_iff_not] at this
    exact Int32.not_le.mp this
  · intro h
    cases q : groundA A with
    | none =>
      have := fst9_none q d (by omega) (by omega)
      simp only [Bool.not_eq_false', decide_eq_true_eq] at this
      exact absurd h (Int32.not_lt.mpr this)
    | some e =>
      obtain ⟨-, he, h2, -⟩ := fst9_some q
      simp only [Bool.not_eq_true', decide_eq_false_iff_not] at h2
      rw [hD.2 e d (by omega) hd (Int32.not_le.mp h2) h]
end RLK2
