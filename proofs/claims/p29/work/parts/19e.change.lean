/-! Calls that change the shop: die, grind, set, pass. -/
def inS (p1 p2 : Int32) : Bool := if p1 = 0 then inB p2 10 300 else if p1 = 1 then inB p2 1 200 else if p1 = 2 then inB p2 0 3 else inB p2 1 30
section DGS
variable {M : Mem} {A A' : Ab} {Q : Nat → Ab} {s b j : Nat} {cd : Nat → Nat} {p1 p2 p3 : Int32} {P : Int32 → Mem → Prop}
theorem Iv.withD {c N T : Nat} (h : Iv A c N T) (e : ∀ r f, ¬ (7 ≤ r ∧ r < 12) → A' r f = A r f) (hD : iD A') : Iv A' c N T := by
  have hc := h.1.1.2.1
  obtain ⟨j, e1, l, bb, d, ss, t⟩ := h
  refine ⟨j.congr (fun f hf => e _ _ (by omega)) (fun k hk f hf => e _ _ (by omega)), fun k hk => ?_, fun k hk => ?_, ⟨fun p hp => ?_, fun p hp => ?_⟩, hD, ?_, fun q hq => ?_⟩
  · rw [e _ _ (by omega)]
    have := bc_congr (A' := A') (A := A) (k := k) (fun p hp => e _ _ (by omega)) (e _ _ (by omega))
    exact (e1.bc hk).trans (by rw [← this]; rfl)
  · obtain ⟨p, m, e1, e2, e3, e4⟩ := l k hk
    exact ⟨p, m, (e _ _ (by omega)).trans e1, (e _ _ (by omega)).trans e2, e3, by rw [bc_congr (fun p hp => e _ _ (by omega)) (e _ _ (by omega))]; exact e4⟩
  · rw [e _ _ (by omega), e _ _ (by omega)]
    rcases bb.1 p hp with w | ⟨⟨k, hk, w⟩, z⟩
    · exact Or.inl w
    · exact Or.inr ⟨⟨k, hk, by rw [e _ _ (by omega)]; exact w⟩, z⟩
  · rw [e _ _ (by omega)]; exact bb.2 p hp
  · unfold iS
    rw [e _ _ (by omega), e _ _ (by omega), e _ _ (by omega), e _ _ (by omega)]
    exact ss
  · obtain ⟨s0, a, b0, e1, e2, e3, e4, e5, e6⟩ := t q hq
    exact ⟨s0, a, b0, (e _ _ (by omega)).trans e1, e2, (e _ _ (by omega)).trans e3, e4, (e _ _ (by omega)).trans e5, e6⟩
theorem x_bounds {R : Int32 → Int32 → Mem → Prop} (hp : ∀ lo hi, inB p2 lo hi = inS p1 p2 → R lo hi M) : wp_X6_leastValue 278 M p1 (fun r4 M3 => wp_X6_mostValue 278 M3 p1 (fun r6 M5 => R r4 r6 M5)) := by
  unfold inS at hp
  refine ⟨fun e => ⟨fun _ => hp _ _ (by rw [if_pos e]), fun n => absurd e n⟩, fun n0 => ⟨fun e => ⟨fun w => absurd w n0, fun _ => ⟨fun w => ?_, fun n1 => ⟨fun _ => hp _ _ (by rw [if_neg n0, if_neg n1, if_pos e]), fun n => absurd e n⟩⟩⟩, fun n2 => ⟨fun w => absurd w n0, fun _ => ⟨fun e => hp _ _ (by rw [if_neg n0, if_pos e]), fun n1 => ⟨fun w => absurd w n2, fun _ => hp _ _ (by rw [if_neg n0, if_neg n1, if_neg n2])⟩⟩⟩⟩⟩
  rw [w] at e
  exact absurd e (by decide)
end DGS
