/-! The reference: the press works; the dies. -/
section RPS
variable {B : Mem} {A A' : Ab} {c N : Nat} {m : Int32} {ι : Nat → Nat} {σ σ' : Nat → Int32}
theorem cnt_of {A : Ab} {c : Nat} (h : A 0 5 = nI c) (hc : c ≤ 10) : cnt A = c := by
  unfold cnt
  rw [h, nI_clamp (by omega)]
theorem makeA_0 {A : Ab} {k f : Nat} : makeA A k 0 f = A 0 f := by
  unfold makeA
  rw [up_r (by omega), up_r (by omega), up_r (by omega), up_r (by omega), up_r (by omega)]
theorem strikeA_0 {A : Ab} {k f : Nat} (hf : f ≠ 12) : strikeA A k 0 f = A 0 f := by
  unfold strikeA
  rw [up_f hf, up_r (by omega), up_r (by omega), up_r (by omega)]
theorem strikeA_J {A : Ab} {k l f : Nat} (hl : l < 10) (hd : dj A k < 5) : strikeA A k (13 + l) f = A (13 + l) f := by
  unfold strikeA
  rw [up_r (by omega), up_r (by omega), up_r (by omega), up_r (by omega)]
theorem goneA_5 {A : Ab} {k f : Nat} (hf : f < 13) : goneA A k 0 f = A 0 f := by
  unfold goneA
  split
  · rw [up_f (by omega)]
  · rw [up_f (by omega), up_f (by omega), up_f (by omega)]
theorem remA_5 {A : Ab} {c k : Nat} : remA A c k 0 5 = nI (c - 1) := by
  unfold remA
  rw [rowsP_o (by omega), up_s]
theorem mvB_o {A : Ab} {q p r f : Nat} (h1 : r ≠ 24 + q) (h2 : r ≠ 24 + p) : mvB A q p r f = A r f := by
  unfold mvB
  rw [up_r h2, rowC_o h1]
theorem aBack_o {A : Ab} {k r f : Nat} (hk : k < 10) (hh : hj A k < 4) (h1 : ¬ (24 ≤ r ∧ r ≤ 30)) (h2 : ¬ (2 ≤ r ∧ r < 6 ∧ f = 4)) (h3 : ¬ (13 ≤ r ∧ r < 23 ∧ f = 7)) : aBack A k r f = A r f := by
  have ehj : hj (heatUp A) k = hj A k := by unfold hj heatUp; rw [up_r (by omega)]
  have e0 : heatUp A r f = A r f := by unfold heatUp; rw [up_r (by omega)]
  have scr : scrA (heatUp A) k r f = A r f := by
    unfold scrA
    rw [ehj, up_r (by omega), up_o (by omega), up_o (by omega)]
    exact e0
  unfold aBack
  cases q : freeA A with
  | none => exact scr
  | some p =>
    have hp6 : p < 6 := by have := (fst9_some q).2.1; omega
    show (if A 30 2 + 1 ≤ A 0 9 then mvB (heatUp A) p 6 else scrA (heatUp A) k) r f = A r f
    split
    · rw [mvB_o (by omega) (by omega)]; exact e0
    · exact scr
/-- a die begins to be ground -/
theorem groundA_none (h : groundA A = none) {d : Nat} (hd : d < 5) : A (7 + d) 3 ≤ 0 := by
  have := fst9_none h d (by omega) (by omega)
  simpa using this
end RPS
