/-! The reference: billets go to and fro, become scrap. -/
section RMW
variable {B : Mem} {A A' : Ab} {c N : Nat} {m : Int32} {ι : Nat → Nat} {σ σ' : Nat → Int32}
theorem iJ.congr {A A' : Ab} {c N : Nat} (hI : iJ A c N) (h0 : ∀ f, f < 7 → A' 0 f = A 0 f) (hJ : ∀ k, k < c → ∀ f, f < 7 → A' (13 + k) f = A (13 + k) f) : iJ A' c N := by
  obtain ⟨⟨a1, a2, a3⟩, b, d, e, f, g, i⟩ := hI
  refine ⟨⟨?_, a2, fun k hk => ?_⟩, fun x y hxy hy => ?_, fun k hk => ?_, ?_, f, fun k l hk hl => ?_, fun k hk => ?_⟩
  · rw [h0 5 (by omega)]; exact a1
  · rw [hJ k hk 1 (by omega), hJ k hk 2 (by omega), hJ k hk 6 (by omega)]; exact a3 k hk
  · have := b x y hxy hy
    unfold bef at this ⊢
    rw [hJ x (by omega) 6 (by omega), hJ y hy 6 (by omega), hJ x (by omega) 5 (by omega), hJ y hy 5 (by omega), hJ x (by omega) 0 (by omega), hJ y hy 0 (by omega)]
    exact this
  · rw [hJ k hk 0 (by omega)]; exact d k hk
  · rw [h0 6 (by omega)]; exact e
  · rw [hJ k hk 0 (by omega), hJ l hl 0 (by omega)]; exact g k l hk hl
  · rw [hJ k hk 3 (by omega), hJ k hk 4 (by omega), hJ k hk 5 (by omega)]; exact i k hk
theorem hotA_job {k p : Nat} (h : hotA A k = some p) : A (24 + p) 0 = A (13 + k) 0 := by
  unfold hotA at h
  have L : ∀ f i (x : Int32 × Option Nat), (∀ p, x.2 = some p → A (24 + p) 0 = A (13 + k) 0) → ∀ p, (foldN (hotG A k) f i x).2 = some p → A (24 + p) 0 = A (13 + k) 0 := by
    intro f
    induction f with
    | zero => intro i x hx p hp; exact hx p hp
    | succ f ih =>
      intro i x hx p hp
      refine ih (i + 1) _ (fun q hq => ?_) p hp
      unfold hotG at hq
      split at hq
      · rename_i z
        cases hq; exact z.1
      · exact hx q hq
  exact L 6 0 _ (fun q hq => by cases hq) p h
theorem cntN_pos {p : Nat → Bool} {x : Nat} : ∀ {n : Nat}, x < n → p x = true → 0 < cntN p n := by
  intro n
  induction n with
  | zero => intro h; omega
  | succ n ih =>
    intro hx hp
    unfold cntN
    by_cases e : x = n
    · subst e; rw [hp]; simp
    · have := ih (by omega) hp
      omega
end RMW
