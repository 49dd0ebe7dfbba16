/-! Calls that change nothing, the rest of them. -/
theorem oI_n1 {o : Option Nat} {c : Nat} (hc : c ≤ 10) (h : ∀ k, o = some k → k < c) : oI o = -1 ↔ o = none := by
  cases o with
  | none => exact ⟨fun _ => rfl, fun _ => rfl⟩
  | some k => exact ⟨fun e => absurd e (nI_n1 (by have := h k rfl; omega)), fun e => (by cases e)⟩
theorem place_lt {A : Ab} {c k : Nat} {x : Int32} (h : placeA A c x = some k) : k < c := by have := (fst9_some h).2.1; omega
section LKD
variable {M : Mem} {A : Ab} {Q : Nat → Ab} {s b j : Nat} {cd : Nat → Nat} {p1 p2 : Int32} {P : Int32 → Mem → Prop}

end LKD
