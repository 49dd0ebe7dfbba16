/-! Calls: what they answer; those that change nothing. -/
def inB (p lo hi : Int32) : Bool := if p < lo then false else if hi < p then false else true
theorem inB_get {p : Int32} {l h : Nat} (hl : l < 2 ^ 31) (hh : h < 2 ^ 31) (e : inB p (nI l) (nI h) = true) : ∃ n, p = nI n ∧ l ≤ n ∧ n ≤ h := by
  unfold inB at e
  split at e
  · cases e
  · rename_i h1
    split at e
    · cases e
    · rename_i h2
      rw [Int32.lt_iff_toInt_lt, nI_toInt hl] at h1
      rw [Int32.lt_iff_toInt_lt, nI_toInt hh] at h2
      refine ⟨p.toInt.toNat, ?_, by omega, by omega⟩
      rw [← Int32.toInt_inj, nI_toInt (by omega)]
      omega
def FrL (M M' : Mem) : Prop := ∀ a, 276 ≤ a → M'.1 a = M.1 a ∧ M'.2.1 a = M.2.1 a
theorem FrL.tr {M M1 M2 : Mem} (h : FrL M M1) (k : FrL M1 M2) : FrL M M2 := fun a ha => ⟨(k a ha).1.trans (h a ha).1, (k a ha).2.trans (h a ha).2⟩
theorem FrL.rf {M : Mem} : FrL M M := fun _ _ => ⟨rfl, rfl⟩
section CLS
variable {M M1 M2 M' : Mem} {A A' : Ab} {Q Q' : Nat → Ab} {s b j s' b' : Nat} {cd cd' : Nat → Nat} {π : Nat → Nat}
end CLS
section LKC
variable {M : Mem} {A : Ab} {Q : Nat → Ab} {s b j : Nat} {cd : Nat → Nat} {p1 p2 : Int32} {P : Int32 → Mem → Prop}
end LKC
