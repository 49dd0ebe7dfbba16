/-! Many minutes. -/
def mins : Nat → Ab → Ab
  | 0, A => A
  | n + 1, A => mins n (aMinute A)
section MIS
variable {B M M' : Mem} {S : Nat} {π : Nat → Nat} {σ σ' : Nat → Int32} {A A' : Ab} {c n N T : Nat} {m : Int32} {ι : Nat → Nat}
theorem Iv.many (h : Iv A c N T) (hT : T + n < 2 ^ 30) : Iv (mins n A) (cnt (mins n A)) N (T + n) := by
  induction n generalizing A c T with
  | zero =>
    show Iv A (cnt A) N T
    rw [h.cn]; exact h
  | succ n ih =>
    have := ih (h.minute (by omega)) (by omega)
    rw [show T + 1 + n = T + (n + 1) by omega] at this
    exact this
theorem mins_11 (h : Iv A c N T) (hT : T + n < 2 ^ 30) : mins n A 0 11 = A 0 11 + nI n := by
  induction n generalizing A c T with
  | zero => show A 0 11 = A 0 11 + 0; rw [Int32.add_zero]
  | succ n ih =>
    have := ih (h.minute (by omega)) (by omega)
    show mins n (aMinute A) 0 11 = _
    rw [this, aMinute_11 h, ← nI_1, Int32.add_assoc, Int32.add_comm 1]
theorem x_passMinutes (h : CF B M S π A) (hI : Iv A c N T) (hT : T + n < 2 ^ 30) {x : Int32} (hx : x = nI n) {P : Mem → Prop} (hp : ∀ M' π', CF B M' S π' (mins n A) → P M') : wp_X5_passMinutes 278 M S x P := by
  subst hx
  refine ⟨n + 1, ?_⟩
  have L : ∀ f i (M1 : Mem) (A1 : Ab) (π1 : Nat → Nat) (c1 T1 : Nat), i + f = n → CF B M1 S π1 A1 → Iv A1 c1 N T1 → T1 + f < 2 ^ 30 → (∀ M' π', CF B M' S π' (mins f A1) → P M') → wpL_X5_passMinutes_2 278 P (f + 1) M1 S (nI n) (nI i) := by
    intro f
    induction f with
    | zero =>
      intro i M1 A1 π1 c1 T1 hi h1 _ _ hp1
      have : i = n := by omega
      subst this
      exact ⟨fun _ => hp1 M1 π1 h1, fun k => absurd (Int32.le_refl _) k⟩
    | succ f ih =>
      intro i M1 A1 π1 c1 T1 hi h1 hI1 hT1 hp1
      refine ⟨fun k => absurd k ?_, fun _ => ⟨h1.tp0, x_passMinute h1 hI1.okM fun M2 π2 h2 v4 e4 => ?_⟩⟩
      · rw [nI_leI (by omega) (by omega)]; omega
      · rw [e4, nI_1]
        exact ih (i + 1) M2 _ π2 _ _ (by omega) h2 (hI1.minute (by omega)) (by omega) hp1
  exact L n 0 M A π c T (by omega) h hI hT hp
end MIS
