/-! Calls that change the jobs: rush, cancel. -/
def hasZ (A : Ab) (k p : Nat) (z : Bool) : Ab := rowsP (aU A (13 + k) 6 (bI z)) (mv k p)
section RSH
variable {M : Mem} {A : Ab} {Q : Nat → Ab} {s b j : Nat} {cd : Nat → Nat} {p1 : Int32} {z : Bool} {P : Int32 → Mem → Prop}
theorem hasZ_0 {k p f : Nat} : hasZ A k p z 0 f = A 0 f := by
  unfold hasZ
  rw [rowsP_o (by omega), up_r (by omega)]
theorem hasZ_cnt {k p : Nat} : cnt (hasZ A k p z) = cnt A := by
  unfold cnt
  rw [hasZ_0]
theorem Iv.hsz {c N T k p : Nat} (h : Iv A c N T) (hk : k < c) (hp : p < c) (hs : srt (hasZ A k p z) c) : Iv (hasZ A k p z) c N T := ((h.un.six hk).moved hk hp).iv hs
end RSH
/-! A job is cancelled. -/
def cuN (A : Ab) (x : Int32) (i : Nat) : Nat := cntN (fun p => decide (A (24 + p) 0 = x)) i
def cutA (A : Ab) (x : Int32) (h k i : Nat) : Ab := fun r f => if 24 ≤ r ∧ r < 24 + i ∧ f = 0 ∧ A r 0 = x then -1 else if r = 2 + h ∧ f = 4 then A r f + nI (cuN A x i) else if r = 13 + k ∧ f = 7 then A r f - nI (cuN A x i) else A r f
section CUT
variable {A : Ab} {x : Int32} {h k i c N T : Nat}
theorem cuN_1 : cuN A x (i + 1) = cuN A x i + (if A (24 + i) 0 = x then 1 else 0) := by
  show cuN A x i + (if decide (A (24 + i) 0 = x) = true then 1 else 0) = _
  by_cases w : A (24 + i) 0 = x <;> simp [w]
theorem cutA_0 : cutA A x h k 0 = A := by
  funext r f
  unfold cutA
  rw [if_neg (by omega), show cuN A x 0 = 0 from rfl]
  show (if r = 2 + h ∧ f = 4 then A r f + 0 else if r = 13 + k ∧ f = 7 then A r f - 0 else A r f) = A r f
  rw [Int32.add_zero, Int32.sub_zero]
  split
  · rfl
  · split <;> rfl
theorem cutA_no (hn : A (24 + i) 0 ≠ x) : cutA A x h k (i + 1) = cutA A x h k i := by
  funext r f
  unfold cutA
  rw [cuN_1, if_neg hn]
  by_cases w : 24 ≤ r ∧ r < 24 + i ∧ f = 0 ∧ A r 0 = x
  · rw [if_pos w, if_pos ⟨w.1, by omega, w.2.2⟩]
  · have w2 : ¬ (24 ≤ r ∧ r < 24 + (i + 1) ∧ f = 0 ∧ A r 0 = x) := fun q => by
      by_cases e : r = 24 + i
      · subst e; exact hn q.2.2.2
      · exact w ⟨q.1, by omega, q.2.2⟩
    rw [if_neg w, if_neg w2]
    rfl
theorem cutA_b {p : Nat} (hp : i ≤ p) : cutA A x h k i (24 + p) 0 = A (24 + p) 0 := by
  unfold cutA
  rw [if_neg (by omega), if_neg (by omega), if_neg (by omega)]
theorem cutA_k {f : Nat} (hk : k < 10) (hf : f ≠ 7) {l : Nat} (hl : l < 10) (hh : h < 4) : cutA A x h k i (13 + l) f = A (13 + l) f := by
  unfold cutA
  rw [if_neg (by omega), if_neg (by omega), if_neg (by omega)]
theorem cutA_yes (hk : k < 10) (hh : h < 4) (hi : i < 7) (hn : A (24 + i) 0 = x) : cutA A x h k (i + 1) = aU (aU (aU (cutA A x h k i) (13 + k) 7 (cutA A x h k i (13 + k) 7 - 1)) (24 + i) 0 (-1)) (2 + h) 4 (cutA A x h k i (2 + h) 4 + 1) := by
  have e4 : cutA A x h k i (2 + h) 4 = A (2 + h) 4 + nI (cuN A x i) := by
    unfold cutA
    rw [if_neg (by omega), if_pos ⟨rfl, rfl⟩]
  have e7 : cutA A x h k i (13 + k) 7 = A (13 + k) 7 - nI (cuN A x i) := by
    unfold cutA
    rw [if_neg (by omega), if_neg (by omega), if_pos ⟨rfl, rfl⟩]
  rw [e4, e7]
  funext r f
  by_cases w4 : r = 2 + h ∧ f = 4
  · obtain ⟨rfl, rfl⟩ := w4
    rw [up_s]
    unfold cutA
    rw [if_neg (by omega), if_pos ⟨rfl, rfl⟩, cuN_1, if_pos hn, ← nI_1, Int32.add_assoc]
  · rw [up_o w4]
    by_cases w0 : r = 24 + i ∧ f = 0
    · obtain ⟨rfl, rfl⟩ := w0
      rw [up_s]
      unfold cutA
      rw [if_pos ⟨by omega, by omega, rfl, hn⟩]
    · rw [up_o w0]
      by_cases w7 : r = 13 + k ∧ f = 7
      · obtain ⟨rfl, rfl⟩ := w7
        rw [up_s]
        unfold cutA
        rw [if_neg (by omega), if_neg (by omega), if_pos ⟨rfl, rfl⟩, cuN_1, if_pos hn, ← nI_1]
        rw [Int32.sub_sub]
      · rw [up_o w7]
        unfold cutA
        rw [if_neg w4, if_neg w4, if_neg w7, if_neg w7]
        by_cases w : 24 ≤ r ∧ r < 24 + i ∧ f = 0 ∧ A r 0 = x
        · rw [if_pos w, if_pos ⟨w.1, by omega, w.2.2⟩]
        · rw [if_neg w, if_neg (fun q => w ⟨q.1, by omega, q.2.2⟩)]
theorem cut_keep (hI : Iv A c N T) (hk : k < c) (hT : T + 7 < 2 ^ 30) : ∀ i, i ≤ 7 → Iv (cutA A (A (13 + k) 0) (hj A k) k i) c N (T + cuN A (A (13 + k) 0) i) := by
  have hc := hI.1.1.2.1
  have hh := (hI.1.1.h hk).1
  intro i
  induction i with
  | zero =>
    intro _
    rw [cutA_0]
    exact hI
  | succ i ih =>
    intro hi
    have w := ih (by omega)
    have hn : cuN A (A (13 + k) 0) i ≤ 7 := Nat.le_trans cntN_le (by omega)
    by_cases e : A (24 + i) 0 = A (13 + k) 0
    · have t := (w.take (p := i) (k := k) (by omega) hk (by rw [cutA_b (Nat.le_refl _), cutA_k (by omega) (by omega) (by omega) hh]; exact e)).1
      have t2 := t.heat (i := hj A k) (f := 4) hh (Or.inr rfl) (by omega)
      rw [up_r (by omega), up_r (by omega)] at t2
      rw [cutA_yes (by omega) hh (by omega) e, cuN_1, if_pos e]
      exact t2
    · rw [cutA_no e, cuN_1, if_neg e]
      exact w
theorem cut_bc (hI : Iv A c N T) (hk : k < c) : bc (cutA A (A (13 + k) 0) h k 7) k = 0 := by
  have hc := hI.1.1.2.1
  have ek : cutA A (A (13 + k) 0) h k 7 (13 + k) 0 = A (13 + k) 0 := by
    unfold cutA
    rw [if_neg (by omega), if_neg (by omega), if_neg (by omega)]
  unfold bc bcF
  rw [ek]
  refine cntN_false fun p hp => decide_eq_false fun w => ?_
  have w : cutA A (A (13 + k) 0) h k 7 (24 + p) 0 = A (13 + k) 0 := w
  unfold cutA at w
  by_cases q : A (24 + p) 0 = A (13 + k) 0
  · rw [if_pos ⟨by omega, by omega, rfl, q⟩] at w
    exact hI.1.num hk w.symm
  · rw [if_neg (fun z => q z.2.2.2), if_neg (by omega), if_neg (by omega)] at w
    exact q w
theorem drop_cp (hI : Iv A c N T) (hk : k < c) : Cp (dropA A c k) (remA (cutA A (A (13 + k) 0) (hj A k) k 7) c k) (c - 1) := by
  have hc := hI.1.1.2.1
  have hh := (hI.1.1.h hk).1
  have e7 : A (13 + k) 7 = nI (cuN A (A (13 + k) 0) 7) := hI.2.1.bc hk
  have dc : ∀ r f, ¬ (r = 13 + k ∧ f = 7) → aU (clrA A (A (13 + k) 0) 7) (2 + hj A k) 4 (A (2 + hj A k) 4 + A (13 + k) 7) r f = cutA A (A (13 + k) 0) (hj A k) k 7 r f := fun r f hr => by
    by_cases w4 : r = 2 + hj A k ∧ f = 4
    · obtain ⟨rfl, rfl⟩ := w4
      rw [up_s]
      unfold cutA
      rw [if_neg (by omega), if_pos ⟨rfl, rfl⟩, e7]
    · rw [up_o w4]
      unfold cutA clrA
      rw [if_neg w4, if_neg hr]
  unfold dropA
  refine ⟨fun f a b => ?_, fun i hi f hf => ?_, fun i hi f hf => ?_, fun i hi f hf => ?_, fun i hi f hf => ?_⟩
  · by_cases w : f = 5
    · subst w
      rw [remA_5, remA_5]
    · rw [remA_o (by omega) (by omega), remA_o (by omega) (by omega)]; exact dc _ _ (by omega)
  · rw [remA_o (by omega) (by omega), remA_o (by omega) (by omega)]; exact dc _ _ (by omega)
  · rw [remA_o (by omega) (by omega), remA_o (by omega) (by omega)]; exact dc _ _ (by omega)
  · rw [remA_J hc hi, remA_J hc hi]
    refine dc _ _ ?_
    split <;> omega
  · rw [remA_o (by omega) (by omega), remA_o (by omega) (by omega)]; exact dc _ _ (by omega)
theorem drop_5 : cnt (dropA A c k) = cnt (remA A c k) := by
  unfold cnt dropA
  rw [remA_5, remA_5]
theorem remA_cnt (hc : c ≤ 10) : cnt (remA A c k) = c - 1 := by
  unfold cnt
  rw [remA_5, nI_clamp (by omega)]
theorem drop_iv (hI : Iv A c N T) (hk : k < c) (hT : T + 7 < 2 ^ 30) : Iv (dropA A c k) (c - 1) N (T + 7) := by
  have w := ((cut_keep hI hk hT 7 (Nat.le_refl _)).rem hk (cut_bc hI hk)).copy (drop_cp hI hk)
  exact w.mono (by have : cuN A (A (13 + k) 0) 7 ≤ 7 := cntN_le; omega)
end CUT
section CAN
variable {M : Mem} {A : Ab} {Q : Nat → Ab} {s b j : Nat} {cd : Nat → Nat} {p1 : Int32} {P : Int32 → Mem → Prop}
theorem drop_0 {c k f : Nat} (hf : f ≠ 5) (hh : hj A k < 4) : dropA A c k 0 f = A 0 f := by
  unfold dropA
  rw [remA_o (by omega) (by omega), up_r (by omega)]
  unfold clrA
  rw [if_neg (by omega)]
end CAN
