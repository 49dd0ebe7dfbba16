/-! Sums over heats, dies and jobs. -/
def sumN (t : Nat → Int32) : Nat → Int32
  | 0 => 0
  | n + 1 => sumN t n + t n
theorem sumN_congr {t t' : Nat → Int32} : ∀ {n : Nat}, (∀ j, j < n → t' j = t j) → sumN t' n = sumN t n := by
  intro n
  induction n with
  | zero => intro _; rfl
  | succ n ih =>
    intro h
    show sumN t' n + t' n = sumN t n + t n
    rw [ih (fun j hj => h j (by omega)), h n (by omega)]
theorem i32_a {a x y : Int32} : a + y = a + x + (y - x) := by grind
theorem i32_b {a d x : Int32} : a + d + x = a + x + d := by grind
theorem i32_c {a x : Int32} : a = a + x - x := by grind
theorem i32_d {a x y : Int32} : a - x + y = a + y - x := by grind
theorem sumN_upd {t t' : Nat → Int32} {k : Nat} : ∀ {n : Nat}, k < n → (∀ j, j < n → j ≠ k → t' j = t j) → sumN t' n = sumN t n + (t' k - t k) := by
  intro n
  induction n with
  | zero => intro h; omega
  | succ n ih =>
    intro hk h
    show sumN t' n + t' n = sumN t n + t n + (t' k - t k)
    by_cases e : k = n
    · subst e
      rw [sumN_congr (t := t) (t' := t') (fun j hj => h j (by omega) (by omega))]
      exact i32_a
    · rw [ih (by omega) (fun j hj hne => h j (by omega) hne), h n (by omega) (fun q => e q.symm)]
      exact i32_b
theorem sumN_0 {t : Nat → Int32} : ∀ {n : Nat}, sumN t (n + 1) = t 0 + sumN (fun j => t (j + 1)) n := by
  intro n
  induction n with
  | zero =>
    show (0 : Int32) + t 0 = t 0 + 0
    rw [Int32.zero_add, Int32.add_zero]
  | succ n ih =>
    show sumN t (n + 1) + t (n + 1) = t 0 + (sumN (fun j => t (j + 1)) n + t (n + 1))
    rw [ih, Int32.add_assoc]
theorem foldN_sum {t : Nat → Int32} : ∀ {f i : Nat} {a : Int32}, foldN (fun k a => a + t k) f i a = a + sumN (fun j => t (i + j)) f := by
  intro f
  induction f with
  | zero => intro i a; show a = a + 0; rw [Int32.add_zero]
  | succ f ih =>
    intro i a
    show foldN (fun k a => a + t k) f (i + 1) (a + t i) = _
    rw [ih, sumN_0, ← Int32.add_assoc]
    congr 1
    exact sumN_congr fun j _ => by show t (i + 1 + j) = t (i + (j + 1)); congr 1; omega
theorem sumN_del {g : Nat → Int32} {k : Nat} : ∀ {c : Nat}, k < c + 1 → sumN (fun i => g (if k ≤ i then i + 1 else i)) c = sumN g (c + 1) - g k := by
  intro c
  induction c with
  | zero =>
    intro hk
    have : k = 0 := by omega
    subst this
    show (0 : Int32) = 0 + g 0 - g 0
    exact i32_c
  | succ c ih =>
    intro hk
    by_cases e : k = c + 1
    · subst e
      rw [sumN_congr (t := g) (n := c + 1) (fun j hj => by show g (if c + 1 ≤ j then j + 1 else j) = g j; rw [if_neg (by omega)])]
      show sumN g (c + 1) = sumN g (c + 1) + g (c + 1) - g (c + 1)
      exact i32_c
    · show sumN (fun i => g (if k ≤ i then i + 1 else i)) c + g (if k ≤ c then c + 1 else c) = sumN g (c + 1) + g (c + 1) - g k
      rw [ih (by omega), if_pos (by omega)]
      exact i32_d
theorem sumN_mv {g : Nat → Int32} {c i p : Nat} (hi : i < c) (hp : p < c) : sumN (fun j => g (mv i p j)) c = sumN g c := by
  obtain ⟨n, rfl⟩ : ∃ n, c = n + 1 := ⟨c - 1, by omega⟩
  have h1 := sumN_del (g := fun j => g (mv i p j)) (k := p) (c := n) hp
  have h2 := sumN_del (g := g) (k := i) (c := n) hi
  have e : sumN (fun j => g (mv i p (if p ≤ j then j + 1 else j))) n = sumN (fun j => g (if i ≤ j then j + 1 else j)) n := sumN_congr fun j _ => by
    show g (mv i p (if p ≤ j then j + 1 else j)) = g (if i ≤ j then j + 1 else j)
    congr 1
    unfold mv
    (repeat' split) <;> omega
  have h3 : sumN (fun j => g (mv i p (if p ≤ j then j + 1 else j))) n = sumN (fun j => g (mv i p j)) (n + 1) - g (mv i p p) := h1
  rw [e, h2, mv_at] at h3
  have : ∀ a b x : Int32, a - x = b - x → b = a := fun a b x h => by grind
  exact this _ _ _ h3
/-- how many of a heat's billets are there: the jobs' counts -/
def bt (A : Ab) (x : Int32) (k : Nat) : Int32 := if A (13 + k) 2 = x then A (13 + k) 7 else 0
theorem bil_sum {A : Ab} {c : Nat} {x : Int32} : bilOfA A c x = sumN (bt A x) c := by
  unfold bilOfA
  rw [show (fun (k : Nat) (a : Int32) => if A (13 + k) 2 = x then a + A (13 + k) 7 else a) = (fun k a => a + bt A x k) from funext fun k => funext fun a => by
    unfold bt
    split
    · rfl
    · rw [Int32.add_zero]]
  rw [foldN_sum, Int32.zero_add]
  exact sumN_congr fun j _ => by show bt A x (0 + j) = bt A x j; rw [Nat.zero_add]
/-- what became of all billets of a heat -/
def tot (A : Ab) (c h : Nat) : Int32 := A (2 + h) 0 + sumN (bt A (nI h)) c + A (2 + h) 3 + A (2 + h) 4
def madeS (A : Ab) : Int32 := sumN (fun h => A (2 + h) 3) 4
def dieS (A : Ab) : Int32 := sumN (fun d => A (7 + d) 4) 5
theorem made_S {A : Ab} : madeA A = madeS A := by
  unfold madeA
  rw [foldN_sum, Int32.zero_add]
  exact sumN_congr fun j _ => by show A (2 + (0 + j)) 3 = A (2 + j) 3; rw [Nat.zero_add]
