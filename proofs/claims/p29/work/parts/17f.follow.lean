/-! The text: what the class reads follows what the reference reads, part by part. -/
def itr (q : Nat → Int32) : Nat → Nat → (Nat → Int32) → (Nat → Int32)
  | 0, _, s => s
  | n + 1, i, s => itr q n (i + 1) (nxt s (q i))
def okAll (q : Nat → Int32) : Nat → Nat → (Nat → Int32) → Prop
  | 0, _, _ => True
  | n + 1, i, s => okC s (q i) = true ∧ okAll q n (i + 1) (nxt s (q i))
def Steps (cd : Nat → Nat) (i : Nat) (s : Nat → Int32) (j : Nat) (s' : Nat → Int32) : Prop := ∃ n, j = i + n ∧ okAll (fun k => nI (cd k)) n i s ∧ itr (fun k => nI (cd k)) n i s = s' ∧ ∀ k, i ≤ k → k < j → cd k ≠ 59
theorem itr_add {q : Nat → Int32} {m : Nat} : ∀ {n i : Nat} {s : Nat → Int32}, itr q (n + m) i s = itr q m (i + n) (itr q n i s) := by
  intro n
  induction n with
  | zero => intro i s; rw [Nat.zero_add]; rfl
  | succ n ih =>
    intro i s
    rw [show n + 1 + m = (n + m) + 1 by omega, show i + (n + 1) = (i + 1) + n by omega]
    exact ih
theorem okAll_add {q : Nat → Int32} {m : Nat} : ∀ {n i : Nat} {s : Nat → Int32}, okAll q n i s → okAll q m (i + n) (itr q n i s) → okAll q (n + m) i s := by
  intro n
  induction n with
  | zero => intro i s _ h; rw [Nat.zero_add]; exact h
  | succ n ih =>
    intro i s h1 h2
    rw [show n + 1 + m = (n + m) + 1 by omega]
    rw [show i + (n + 1) = (i + 1) + n by omega] at h2
    exact ⟨h1.1, ih h1.2 h2⟩
section FOL
variable {cd : Nat → Nat} {b a : Nat} {s s' s'' : Nat → Int32}
theorem Steps.rf {i : Nat} : Steps cd i s i s := ⟨0, rfl, trivial, rfl, fun k h1 h2 => by omega⟩
theorem Steps.tr {i j k : Nat} (h : Steps cd i s j s') (h' : Steps cd j s' k s'') : Steps cd i s k s'' := by
  obtain ⟨n, rfl, a1, rfl, c1⟩ := h
  obtain ⟨m, rfl, a2, rfl, c2⟩ := h'
  exact ⟨n + m, by omega, okAll_add a1 a2, itr_add, fun x h1 h2 => if q : x < i + n then c1 x h1 q else c2 x (by omega) h2⟩
-- the states
/-- the digits of the pieces -/
/-- the digits of the due minute -/
end FOL
