/-! A job comes. -/
def addQ (A : Ab) (c : Nat) (d g p u : Int32) (z : Bool) (q : Nat) : Ab := rowsP (addA A c d g p u z) (mv c q)
section ADD
variable {A : Ab} {c N T q : Nat} {d g p u : Int32} {z : Bool}
theorem add_r {r : Nat} (h0 : r ≠ 0) (hc : r ≠ 13 + c) : addA A c d g p u z r = A r := by
  funext f
  unfold addA
  rw [up_r h0, up_r h0, up_r hc, up_r hc, up_r hc, up_r hc, up_r hc, up_r hc, up_r hc, up_r hc]
theorem add_5 : addA A c d g p u z 0 5 = nI (c + 1) := up_s
theorem add_6 : addA A c d g p u z 0 6 = A 0 6 + 1 := by
  unfold addA
  rw [up_f (by omega), up_s]
theorem add_0 {f : Nat} (h5 : f ≠ 5) (h6 : f ≠ 6) : addA A c d g p u z 0 f = A 0 f := by
  unfold addA
  rw [up_f h5, up_f h6, up_r (by omega), up_r (by omega), up_r (by omega), up_r (by omega), up_r (by omega), up_r (by omega), up_r (by omega), up_r (by omega)]
theorem add_c : addA A c d g p u z (13 + c) 0 = A 0 6 ∧ addA A c d g p u z (13 + c) 1 = d ∧ addA A c d g p u z (13 + c) 2 = g ∧ addA A c d g p u z (13 + c) 3 = p ∧ addA A c d g p u z (13 + c) 4 = 0 ∧ addA A c d g p u z (13 + c) 5 = u ∧ addA A c d g p u z (13 + c) 6 = bI z ∧ addA A c d g p u z (13 + c) 7 = 0 := by
  unfold addA
  refine ⟨?_, ?_, ?_, ?_, ?_, ?_, ?_, ?_⟩
  · rw [up_r (by omega), up_r (by omega), up_f (by omega), up_f (by omega), up_f (by omega), up_f (by omega), up_f (by omega), up_f (by omega), up_f (by omega), up_s]
  · rw [up_r (by omega), up_r (by omega), up_f (by omega), up_f (by omega), up_f (by omega), up_f (by omega), up_f (by omega), up_f (by omega), up_s]
  · rw [up_r (by omega), up_r (by omega), up_f (by omega), up_f (by omega), up_f (by omega), up_f (by omega), up_f (by omega), up_s]
  · rw [up_r (by omega), up_r (by omega), up_f (by omega), up_f (by omega), up_f (by omega), up_f (by omega), up_s]
  · rw [up_r (by omega), up_r (by omega), up_f (by omega), up_f (by omega), up_f (by omega), up_s]
  · rw [up_r (by omega), up_r (by omega), up_f (by omega), up_f (by omega), up_s]
  · rw [up_r (by omega), up_r (by omega), up_f (by omega), up_s]
  · rw [up_r (by omega), up_r (by omega), up_s]
theorem Iv.new (h : Iv A c N T) {k : Nat} (hk : k < c) : A (13 + k) 0 ≠ A 0 6 := by
  obtain ⟨m, e, hm⟩ := h.1.2.2.1 k hk
  rw [e, h.1.2.2.2.1]
  intro w
  have hN := h.1.2.2.2.2.1
  have := (nI_eq (by omega) (by omega)).mp w
  omega
theorem Iv.add (h : Iv A c N T) (hc : c < 10) (hN : N + 1 < 1000000) {dn gn pn un : Nat} (hd : d = nI dn) (hd5 : dn < 5) (hg : g = nI gn) (hg4 : gn < 4) (hp : p = nI pn) (hp1 : 1 ≤ pn) (hp2 : pn ≤ 40) (hu : u = nI un) (hu2 : un ≤ 9999) (hq : q < c + 1) (hs : srt (addQ A c d g p u z q) (c + 1)) : Iv (addQ A c d g p u z q) (c + 1) (N + 1) T := by
  have hnew := fun k (hk : k < c) => h.new hk
  obtain ⟨j1, j3, j4, j5, j6, j7, e, l, b, di, s, t⟩ := h.un
  obtain ⟨c0, c1, c2, c3, c4, c5, c6, c7⟩ := add_c (A := A) (c := c) (d := d) (g := g) (p := p) (u := u) (z := z)
  have o : ∀ r, r ≠ 0 → r ≠ 13 + c → addA A c d g p u z r = A r := fun r h1 h2 => add_r h1 h2
  have J : ∀ k, k < c → addA A c d g p u z (13 + k) = A (13 + k) := fun k hk => o _ (by omega) (by omega)
  have nb : ∀ r, r < 7 → A (24 + r) 0 ≠ A 0 6 := fun r hr w => by
    rcases b.1 r hr with y | ⟨⟨k, hk, y⟩, _⟩
    · rw [y, j4] at w
      exact nI_n1 (by omega) w.symm
    · exact hnew k hk (by rw [← y]; exact w)
  have cb : ∀ k, k < c → bc (addA A c d g p u z) k = bc A k := fun k hk => by
    unfold bc bcF
    rw [J k hk]
    exact cntN_congr fun r hr => by
      show decide (addA A c d g p u z (24 + r) 0 = _) = decide (A (24 + r) 0 = _)
      rw [o _ (by omega) (by omega)]
  have cc : bc (addA A c d g p u z) c = 0 := by
    unfold bc bcF
    rw [c0]
    refine cntN_false fun r hr => decide_eq_false fun w => ?_
    have w : addA A c d g p u z (24 + r) 0 = A 0 6 := w
    rw [o _ (by omega) (by omega)] at w
    exact nb r hr w
  have key : iU (addA A c d g p u z) (c + 1) (N + 1) T := by
    refine ⟨⟨add_5, by omega, fun k hk => ?_⟩, fun k hk => ?_, by rw [add_6, j4, nI_1], hN, fun k k' hk hk' w => ?_, fun k hk => ?_, fun k hk => ?_, fun k hk => ?_, ⟨fun r hr => ?_, fun r hr => ?_⟩, ⟨fun i hi => ?_, fun i i' hi hi' x1 x2 => ?_⟩, ?_, fun i hi => ?_⟩
    · by_cases w : k = c
      · subst w
        rw [c1, c2, c6]
        exact ⟨⟨dn, hd5, hd⟩, ⟨gn, hg4, hg⟩, by cases z <;> simp [bI]⟩
      · rw [J k (by omega)]; exact j1.2.2 k (by omega)
    · by_cases w : k = c
      · subst w
        exact ⟨N, by rw [c0]; exact j4, by omega⟩
      · rw [J k (by omega)]
        obtain ⟨m, e1, e2⟩ := j3 k (by omega)
        exact ⟨m, e1, by omega⟩
    · by_cases w1 : k = c
      · by_cases w2 : k' = c
        · omega
        · rw [w1, c0, J k' (by omega)] at w
          exact absurd w.symm (hnew k' (by omega))
      · by_cases w2 : k' = c
        · rw [w2, c0, J k (by omega)] at w
          exact absurd w (hnew k (by omega))
        · rw [J k (by omega), J k' (by omega)] at w
          exact j6 k k' (by omega) (by omega) w
    · by_cases w : k = c
      · subst w
        exact ⟨pn, 0, un, by rw [c3]; exact hp, by rw [c4]; rfl, by rw [c5]; exact hu, by omega, hp2, hu2⟩
      · rw [J k (by omega)]; exact j7 k (by omega)
    · show addA A c d g p u z (13 + k) 7 = nI (bc (addA A c d g p u z) k)
      by_cases w : k = c
      · subst w
        rw [c7, cc]; rfl
      · rw [J k (by omega), cb k (by omega)]; exact e.bc (by omega)
    · by_cases w : k = c
      · subst w
        exact ⟨pn, 0, by rw [c3]; exact hp, by rw [c4]; rfl, hp2, by rw [cc]; omega⟩
      · obtain ⟨p', m, f1, f2, f3, f4⟩ := l k (by omega)
        exact ⟨p', m, by rw [J k (by omega)]; exact f1, by rw [J k (by omega)]; exact f2, f3, by rw [cb k (by omega)]; exact f4⟩
    · rw [o _ (by omega) (by omega)]
      rcases b.1 r hr with y | ⟨⟨k, hk, y⟩, w⟩
      · exact Or.inl y
      · exact Or.inr ⟨⟨k, by omega, by rw [J k hk]; exact y⟩, w⟩
    · rw [o _ (by omega) (by omega)]; exact b.2 r hr
    · rw [o _ (by omega) (by omega)]; exact di.1 i hi
    · rw [o _ (by omega) (by omega)] at x1 x2
      exact di.2 i i' hi hi' x1 x2
    · unfold iS
      rw [add_0 (by omega) (by omega), add_0 (by omega) (by omega), add_0 (by omega) (by omega), add_0 (by omega) (by omega)]; exact s
    · rw [o _ (by omega) (by omega)]; exact t i hi
  exact (key.moved (k := c) (p := q) (by omega) hq).iv hs
theorem addQ_0 {f : Nat} (h5 : f ≠ 5) (h6 : f ≠ 6) : addQ A c d g p u z q 0 f = A 0 f := by
  unfold addQ
  rw [rowsP_o (by omega), add_0 h5 h6]
theorem addQ_cnt (hc : c < 10) : cnt (addQ A c d g p u z q) = c + 1 := by
  unfold cnt addQ
  rw [rowsP_o (by omega), add_5, nI_clamp (by omega)]
theorem addQ_6 : addQ A c d g p u z q 0 6 = A 0 6 + 1 := by
  unfold addQ
  rw [rowsP_o (by omega), add_6]
end ADD
/-! job -/
def oJob (A : Ab) (d g p u : Int32) (z : Bool) (q : Nat) : Int32 × Int32 × Ab := if inB d 0 4 = true then (if inB g 0 3 = true then (if inB p 1 40 = true then (if inB u 0 9999 = true then (if A 0 5 < 10 then (0, A 0 6, addQ A (cnt A) d g p u z q) else (3, 0, A)) else (2, 0, A)) else (2, 0, A)) else (1, 0, A)) else (1, 0, A)
section JOB
variable {M : Mem} {A : Ab} {Q : Nat → Ab} {s b j : Nat} {cd : Nat → Nat} {d g p u : Int32} {z : Bool} {P : Int32 → Mem → Prop}
end JOB
