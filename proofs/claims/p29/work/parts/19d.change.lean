/-! Calls that change the shop. -/
section MUT
variable {M M2 M3 M4 : Mem} {A A' : Ab} {Q Q' : Nat → Ab} {s s' b j : Nat} {cd : Nat → Nat} {P : Int32 → Mem → Prop} {o : Int32 × Int32 × Ab} {v x : Int32} {π : Nat → Nat}
end MUT
/-! stock, range -/
section STK
variable {M : Mem} {A : Ab} {Q : Nat → Ab} {s b j : Nat} {cd : Nat → Nat} {p1 p2 p3 : Int32} {P : Int32 → Mem → Prop}
theorem Iv.stock {c N T : Nat} (h : Iv A c N T) {i n : Nat} (hi : i < 4) (hn : n ≤ 200) : Iv (aU A (2 + i) 0 (nI n)) c N T := by
  have hc := h.1.1.2.1
  have h2 : Iv (aU A (2 + i) 1 (A (2 + i) 1)) c N T := h.congr (fun f hf => up_r (by omega)) (fun q hq => ⟨up_o (by omega), up_o (by omega), up_o (by omega)⟩) (fun d hd => ⟨up_r (by omega), up_r (by omega), up_r (by omega)⟩) (fun k hk f hf => up_r (by omega)) (fun p hp => ⟨up_r (by omega), up_r (by omega), up_r (by omega)⟩)
  obtain ⟨j, e, l, bb, d, ss, t⟩ := h
  refine ⟨j.congr (fun f hf => up_r (by omega)) (fun k hk f hf => up_r (by omega)), fun k hk => ?_, fun k hk => ?_, ⟨fun p hp => ?_, fun p hp => ?_⟩, ⟨fun q hq => ?_, fun q q' hq hq' h1 h2 => ?_⟩, ?_, fun q hq => ?_⟩
  · rw [up_r (by omega)]
    have := bc_congr (A' := aU A (2 + i) 0 (nI n)) (A := A) (k := k) (fun p hp => up_r (by omega)) (up_r (by omega))
    exact (e.bc hk).trans (by rw [← this]; rfl)
  · obtain ⟨p, m, e1, e2, e3, e4⟩ := l k hk
    exact ⟨p, m, (up_r (by omega)).trans e1, (up_r (by omega)).trans e2, e3, by rw [bc_congr (fun p hp => up_r (by omega)) (up_r (by omega))]; exact e4⟩
  · rw [up_r (by omega), up_r (by omega)]
    rcases bb.1 p hp with w | ⟨⟨k, hk, w⟩, z⟩
    · exact Or.inl w
    · exact Or.inr ⟨⟨k, hk, by rw [up_r (by omega)]; exact w⟩, z⟩
  · rw [up_r (by omega)]; exact bb.2 p hp
  · obtain ⟨b1, l1, g1, x⟩ := d.1 q hq
    rw [up_r (by omega), up_r (by omega), up_r (by omega)]
    exact ⟨b1, l1, g1, x⟩
  · rw [up_r (by omega)] at h1 h2
    exact d.2 q q' hq hq' h1 h2
  · unfold iS
    rw [up_r (by omega), up_r (by omega), up_r (by omega), up_r (by omega)]
    exact ss
  · obtain ⟨s0, a, b0, e1, e2, e3, e4, e5, e6⟩ := t q hq
    by_cases w : q = i
    · subst w
      exact ⟨n, a, b0, up_s, hn, by rw [up_f (by omega)]; exact e3, e4, by rw [up_f (by omega)]; exact e5, e6⟩
    · exact ⟨s0, a, b0, by rw [up_r (by omega)]; exact e1, e2, by rw [up_r (by omega)]; exact e3, e4, by rw [up_r (by omega)]; exact e5, e6⟩
end STK
