/-! Many minutes. -/
def mins : Nat → Ab → Ab
  | 0, A => A
  | n + 1, A => mins n (aMinute A)
section MIS
variable {B M M' : Mem} {S : Nat} {π : Nat → Nat} {σ σ' : Nat → Int32} {A A' : Ab} {c n N T : Nat} {m : Int32} {ι : Nat → Nat}
theorem mins_add {a b : Nat} : mins (a + b) A = mins b (mins a A) := by
  induction a generalizing A with
  | zero => rw [Nat.zero_add]; rfl
  | succ a ih =>
    rw [show a + 1 + b = (a + b) + 1 by omega]
    exact ih
theorem Iv.many (h : Iv A c N T) (hT : T + n < 2 ^ 30) : Iv (mins n A) (cnt (mins n A)) N (T + n) := by
  induction n generalizing A c T with
  | zero =>
    show Iv A (cnt A) N T
    rw [h.cn]; exact h
  | succ n ih =>
    have := ih (h.minute (by omega)) (by omega)
    rw [show T + 1 + n = T + (n + 1) by omega] at this
    exact this
theorem mins_11 (h : Iv A c N T) (hT : T + n < 2 ^ 30) : mins n A 0 11 = A 0 11 + nI n := by
  induction n generalizing A c T with
  | zero => show A 0 11 = A 0 11 + 0; rw [Int32.add_zero]
  | succ n ih =>
    have := ih (h.minute (by omega)) (by omega)
    show mins n (aMinute A) 0 11 = _
    rw [this, aMinute_11 h, ← nI_1, Int32.add_assoc, Int32.add_comm 1]
theorem x_passMinutes (h : CF B M S π A) (hI : Iv A c N T) (hT : T + n < 2 ^ 30) {x : Int32} (hx : x = nI n) {P : Mem → Prop} (hp : ∀ M' π', CF B M' S π' (mins n A) → P M') : wp_X5_passMinutes 283 M S x P := by
  subst hx
  refine ⟨n + 1, ?_⟩
  have L : ∀ f i (M1 : Mem) (A1 : Ab) (π1 : Nat → Nat) (c1 T1 : Nat), i + f = n → CF B M1 S π1 A1 → Iv A1 c1 N T1 → T1 + f < 2 ^ 30 → (∀ M' π', CF B M' S π' (mins f A1) → P M') → wpL_X5_passMinutes_2 283 P (f + 1) M1 S (nI n) (nI i) := by
    intro f
    induction f with
    | zero =>
      intro i M1 A1 π1 c1 T1 hi h1 _ _ hp1
      have : i = n := by omega
      subst this
      exact ⟨fun _ => hp1 M1 π1 h1, fun k => absurd (Int32.le_refl _) k⟩
    | succ f ih =>
      intro i M1 A1 π1 c1 T1 hi h1 hI1 hT1 hp1
      refine ⟨fun k => absurd k ?_, fun _ => ⟨h1.tp0, x_passMinute h1 hI1.okM fun M2 π2 h2 v4 e4 => ?_⟩⟩
      · rw [nI_leI (by omega) (by omega)]; omega
      · rw [e4, nI_1]
        exact ih (i + 1) M2 _ π2 _ _ (by omega) h2 (hI1.minute (by omega)) (by omega) hp1
  exact L n 0 M A π c T (by omega) h hI hT hp
theorem r_minutes (hB : RB B) (hR : Rel A c (A 0 11) ι σ) (hI : Iv A c N T) (hT : T + n < 2 ^ 30) {x : Int32} (hx : x = nI n) {P : Int32 → Mem → Prop} (hp : ∀ ι' σ', Rel (mins n A) (cnt (mins n A)) (mins n A 0 11) ι' σ' → P (madeA (mins n A) - madeA A) (sM B σ')) : wp_X7_minutes 283 (sM B σ) 276 x P := by
  subst hx
  refine ⟨tp7, r_rd hB (i := 7) (x := 7) (by omega) rfl (P := fun w => ∀ v5 : Int32, v5 = w → ∃ f, wpL_X7_minutes_10 283 P f (sM B σ) 276 (nI n) v5 0) fun v5 e5 => ⟨n + 1, ?_⟩⟩
  rw [hR.1.2.2.2.2.1] at e5
  have L : ∀ f i (A1 : Ab) (σ1 ι1 : _) (c1 T1 : Nat), i + f = n → Rel A1 c1 (A1 0 11) ι1 σ1 → Iv A1 c1 N T1 → T1 + f < 2 ^ 30 → (∀ ι' σ', Rel (mins f A1) (cnt (mins f A1)) (mins f A1 0 11) ι' σ' → P (madeA (mins f A1) - madeA A) (sM B σ')) → wpL_X7_minutes_10 283 P (f + 1) (sM B σ1) 276 (nI n) v5 (nI i) := by
    intro f
    induction f with
    | zero =>
      intro i A1 σ1 ι1 c1 T1 hi h1 hI1 _ hp1
      have : i = n := by omega
      subst this
      refine ⟨fun _ => ⟨tp7, r_rd hB (i := 7) (x := 7) (by omega) rfl (P := fun w => P (w - v5) (sM B σ1)) ?_⟩, fun k => absurd (Int32.le_refl _) k⟩
      rw [h1.1.2.2.2.2.1, e5]
      refine hp1 ι1 σ1 ?_
      show Rel A1 (cnt A1) (A1 0 11) ι1 σ1
      rw [hI1.cn]; exact h1
    | succ f ih =>
      intro i A1 σ1 ι1 c1 T1 hi h1 hI1 hT1 hp1
      refine ⟨fun k => absurd k ?_, fun _ => ⟨tp7, r_minute hB h1 hI1 (by omega) fun ι2 σ2 h2 v4 e4 => ?_⟩⟩
      · rw [nI_leI (by omega) (by omega)]; omega
      · rw [e4, nI_1]
        exact ih (i + 1) _ σ2 ι2 _ _ (by omega) h2 (hI1.minute (by omega)) (by omega) hp1
  exact L n 0 A σ ι c T (by omega) hR hI hT hp
end MIS
