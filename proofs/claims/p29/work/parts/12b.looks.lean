/-! What is kept of a shop's value; the reference's looks at the jobs. -/
def cntN (p : Nat → Bool) : Nat → Nat
  | 0 => 0
  | n + 1 => cntN p n + (if p n = true then 1 else 0)
def iJ (A : Ab) (c N : Nat) : Prop := okN A c ∧ srt A c ∧ (∀ k, k < c → ∃ m, A (13 + k) 0 = nI m ∧ m < N) ∧ A 0 6 = nI N ∧ N < 1000000 ∧ (∀ k l, k < c → l < c → A (13 + k) 0 = A (13 + l) 0 → k = l) ∧ ∀ k, k < c → ∃ p m u, A (13 + k) 3 = nI p ∧ A (13 + k) 4 = nI m ∧ A (13 + k) 5 = nI u ∧ m < p ∧ p ≤ 40 ∧ u ≤ 9999
def iC (A : Ab) (c : Nat) : Prop := ∀ k, k < c → A (13 + k) 7 = nI (cntN (fun p => decide (A (24 + p) 0 = A (13 + k) 0)) 7)
def iB (A : Ab) (c : Nat) : Prop := (∀ p, p < 7 → A (24 + p) 0 = -1 ∨ ((∃ k, k < c ∧ A (24 + p) 0 = A (13 + k) 0) ∧ ∃ b, A (24 + p) 3 = nI b ∧ 1 ≤ b ∧ b ≤ 9)) ∧ ∀ p, p < 7 → ∃ t, A (24 + p) 1 = nI t ∧ t ≤ 1250
def iD (A : Ab) : Prop := (∀ d, d < 5 → ∃ b l g, A (7 + d) 0 = nI b ∧ 1 ≤ b ∧ b ≤ 9 ∧ A (7 + d) 1 = nI l ∧ l ≤ 300 ∧ A (7 + d) 3 = nI g ∧ g ≤ 30) ∧ ∀ d e, d < 5 → e < 5 → 0 < A (7 + d) 3 → 0 < A (7 + e) 3 → d = e
def iS (A : Ab) : Prop := ∃ w x r g, A 0 7 = nI w ∧ w ≤ 300 ∧ A 0 8 = nI x ∧ x ≤ 200 ∧ A 0 9 = nI r ∧ r ≤ 3 ∧ A 0 10 = nI g ∧ 1 ≤ g ∧ g ≤ 30
def iH (A : Ab) (T : Nat) : Prop := ∀ h, h < 4 → ∃ s a b, A (2 + h) 0 = nI s ∧ s ≤ 200 ∧ A (2 + h) 3 = nI a ∧ a ≤ T ∧ A (2 + h) 4 = nI b ∧ b ≤ T
theorem nI_sub_toInt {a b : Nat} (ha : a < 2 ^ 30) (hb : b < 2 ^ 30) : (nI a - nI b).toInt = (a : Int) - b := by
  rw [Int32.toInt_sub, nI_toInt (by omega), nI_toInt (by omega)]
  apply Int.bmod_eq_of_le <;> omega
theorem nI_n1 {k : Nat} (h : k < 2 ^ 31) : nI k ≠ -1 := by
  intro e
  have := congrArg Int32.toInt e
  rw [nI_toInt h, show (-1 : Int32).toInt = -1 from rfl] at this
  omega
section RLOOK
variable {B : Mem} {A : Ab} {c N : Nat} {m : Int32} {ι : Nat → Nat} {σ : Nat → Int32}
/-- the place in the order of the job of the billet p -/
def plB (A : Ab) (c p : Nat) : Option Nat := if A (24 + p) 0 = -1 then none else placeA A c (A (24 + p) 0)
theorem cntN_congr {p q : Nat → Bool} : ∀ {n : Nat}, (∀ j, j < n → p j = q j) → cntN p n = cntN q n := by
  intro n
  induction n with
  | zero => intro _; rfl
  | succ n ih => intro h; unfold cntN; rw [ih (fun j hj => h j (by omega)), h n (by omega)]
theorem cntN_false {p : Nat → Bool} : ∀ {n : Nat}, (∀ j, j < n → p j = false) → cntN p n = 0 := by
  intro n
  induction n with
  | zero => intro _; rfl
  | succ n ih => intro h; unfold cntN; rw [ih (fun j hj => h j (by omega)), h n (by omega)]; simp
/-- one more -/
theorem cntN_add {p q : Nat → Bool} {x : Nat} : ∀ {n : Nat}, x < n → p x = false → q x = true → (∀ j, j < n → j ≠ x → q j = p j) → cntN q n = cntN p n + 1 := by
  intro n
  induction n with
  | zero => intro h; omega
  | succ n ih =>
    intro hx hp hq h
    unfold cntN
    by_cases e : x = n
    · subst e
      rw [hp, hq, cntN_congr (p := q) (q := p) (fun j hj => h j (by omega) (by omega))]
      simp
    · rw [ih (by omega) hp hq (fun j hj hne => h j (by omega) hne), h n (by omega) (fun q => e q.symm)]
      omega
theorem cntN_le {p : Nat → Bool} : ∀ {n : Nat}, cntN p n ≤ n := by
  intro n
  induction n with
  | zero => exact Nat.le_refl _
  | succ n ih => unfold cntN; split <;> omega
theorem srt.bef {A : Ab} {c : Nat} (h : srt A c) {k l : Nat} (hk : k < c) (hl : l < c) (hne : k ≠ l) : bef (A (13 + k)) (A (13 + l)) = decide (k < l) := by
  by_cases e : k < l
  · rw [h k l e hl]; simp [e]
  · rw [bef_asymm (h l k (by omega) hk)]; simp [e]
end RLOOK
