/-! The first state: a new shop. -/
def A0 : Ab := fun r f => if r = 0 then (if f = 7 then 150 else if f = 8 then 40 else if f = 9 then 1 else if f = 10 then 5 else 0) else if (2 ≤ r ∧ r < 6) ∨ r = 31 then (if f = 1 then 900 else if f = 2 then 1100 else 0) else if (7 ≤ r ∧ r < 12) ∨ r = 32 then (if f = 0 then 3 else if f = 1 then 60 else 0) else if 24 ≤ r ∧ r < 31 then (if f = 0 then -1 else 0) else 0
def tg (r f : Nat) : Nat := if r = 0 then (if f = 0 then 1 else if f = 1 then 6 else if f = 2 then 12 else if f = 3 then 23 else if f = 4 then 30 else if f = 16 then 31 else if f = 17 then 32 else if f = 18 then 33 else 99) else if r = 1 ∧ f < 4 then 2 + f else if r = 6 ∧ f < 5 then 7 + f else if r = 12 ∧ f < 10 then 13 + f else if r = 23 ∧ f < 6 then 24 + f else 99 + r
def shM (B : Mem) (S k : Nat) : Mem := (fun a f => if S ≤ a ∧ a < S + k then A0 (a - S) f else B.1 a f, fun a f => if S ≤ a ∧ a < S + k then (if tg (a - S) f < k then some (S + tg (a - S) f) else none) else B.2.1 a f, fun a f => if S ≤ a ∧ a < S + k then 0 else B.2.2 a f)
theorem tg_gt {r f : Nat} : r < tg r f := by
  unfold tg
  repeat' split
  all_goals omega
theorem tg_src {r f : Nat} : (tg r f = 1 → r = 0 ∧ f = 0) ∧ (tg r f = 6 → r = 0 ∧ f = 1) ∧ (tg r f = 12 → r = 0 ∧ f = 2) ∧ (tg r f = 23 → r = 0 ∧ f = 3) ∧ (tg r f = 30 → r = 0 ∧ f = 4) ∧ (tg r f = 31 → r = 0 ∧ f = 16) ∧ (tg r f = 32 → r = 0 ∧ f = 17) ∧ (tg r f = 33 → r = 0 ∧ f = 18) ∧ (∀ i, i < 4 → tg r f = 2 + i → r = 1 ∧ f = i) ∧ (∀ i, i < 5 → tg r f = 7 + i → r = 6 ∧ f = i) ∧ (∀ i, i < 10 → tg r f = 13 + i → r = 12 ∧ f = i) ∧ (∀ i, i < 6 → tg r f = 24 + i → r = 23 ∧ f = i) := by
  unfold tg
  repeat' split
  all_goals (refine ⟨?_, ?_, ?_, ?_, ?_, ?_, ?_, ?_, ?_, ?_, ?_, ?_⟩)
  all_goals (intros; omega)
section SHI
variable {B M1 : Mem} {S k pr pf : Nat}
theorem shM_step (ht : tg pr pf = k) (hu : ∀ r f, tg r f = k → r = pr ∧ f = pf) (h1 : ∀ a f, M1.1 a f = if a = S + k then A0 k f else (shM B S k).1 a f) (h2 : ∀ a f, M1.2.1 a f = if a = S + k then none else (shM B S k).2.1 a f) (h3 : ∀ a f, M1.2.2 a f = if a = S + k then 0 else (shM B S k).2.2 a f) : uR M1 (S + pr) pf (some (S + k)) = shM B S (k + 1) := by
  have hpr : pr < k := by rw [← ht]; exact tg_gt
  refine Prod.ext (funext fun a => funext fun f => ?_) (Prod.ext (funext fun a => funext fun f => ?_) (funext fun a => funext fun f => ?_))
  · show M1.1 a f = if S ≤ a ∧ a < S + (k + 1) then A0 (a - S) f else B.1 a f
    rw [h1]
    show (if a = S + k then A0 k f else if S ≤ a ∧ a < S + k then A0 (a - S) f else B.1 a f) = _
    by_cases w : a = S + k
    · rw [if_pos w, if_pos (by omega), show a - S = k by omega]
    · rw [if_neg w]
      by_cases w2 : S ≤ a ∧ a < S + k
      · rw [if_pos w2, if_pos (by omega)]
      · rw [if_neg w2, if_neg (by omega)]
  · show (if a = S + pr ∧ f = pf then some (S + k) else M1.2.1 a f) = if S ≤ a ∧ a < S + (k + 1) then (if tg (a - S) f < k + 1 then some (S + tg (a - S) f) else none) else B.2.1 a f
    by_cases w0 : a = S + pr ∧ f = pf
    · rw [if_pos w0, if_pos (by omega), show a - S = pr by omega, w0.2, ht, if_pos (by omega)]
    · rw [if_neg w0, h2]
      show (if a = S + k then none else if S ≤ a ∧ a < S + k then (if tg (a - S) f < k then some (S + tg (a - S) f) else none) else B.2.1 a f) = _
      by_cases w : a = S + k
      · rw [if_pos w, if_pos (by omega), show a - S = k by omega, if_neg (by have := tg_gt (r := k) (f := f); omega)]
      · rw [if_neg w]
        by_cases w2 : S ≤ a ∧ a < S + k
        · rw [if_pos w2, if_pos (show S ≤ a ∧ a < S + (k + 1) by omega)]
          have ne : tg (a - S) f ≠ k := fun e => w0 (by have := hu _ _ e; omega)
          by_cases w3 : tg (a - S) f < k
          · rw [if_pos w3, if_pos (show tg (a - S) f < k + 1 by omega)]
          · rw [if_neg w3, if_neg (show ¬ tg (a - S) f < k + 1 by omega)]
        · rw [if_neg w2, if_neg (show ¬ (S ≤ a ∧ a < S + (k + 1)) by omega)]
  · show M1.2.2 a f = if S ≤ a ∧ a < S + (k + 1) then 0 else B.2.2 a f
    rw [h3]
    show (if a = S + k then 0 else if S ≤ a ∧ a < S + k then 0 else B.2.2 a f) = _
    by_cases w : a = S + k
    · rw [if_pos w, if_pos (by omega)]
    · rw [if_neg w]
      by_cases w2 : S ≤ a ∧ a < S + k
      · rw [if_pos w2, if_pos (by omega)]
      · rw [if_neg w2, if_neg (by omega)]
theorem shM_rd {r f t : Nat} (h : tg r f = t) (ht : t < k) : (shM B S k).2.1 (S + r) f = some (S + t) := by
  have := tg_gt (r := r) (f := f)
  show (if S ≤ S + r ∧ S + r < S + k then (if tg (S + r - S) f < k then some (S + tg (S + r - S) f) else none) else B.2.1 (S + r) f) = _
  rw [if_pos (by omega), show S + r - S = r by omega, h, if_pos ht]
/-- an object without fields that are set: arrays, jobs -/
theorem shM_new (ht : tg pr pf = k) (hu : ∀ r f, tg r f = k → r = pr ∧ f = pf) (hz : ∀ f, A0 k f = 0) : uR (uN (shM B S k) (S + k)) (S + pr) pf (some (S + k)) = shM B S (k + 1) := by
  refine shM_step ht hu (fun a f => ?_) (fun a f => rfl) fun a f => rfl
  show (if a = S + k then 0 else (shM B S k).1 a f) = _
  rw [hz]
theorem A0_h {f : Nat} (hz : (2 ≤ k ∧ k < 6) ∨ k = 31) : A0 k f = if f = 1 then 900 else if f = 2 then 1100 else 0 := by
  unfold A0
  rw [if_neg (show ¬ k = 0 by omega), if_pos hz]
theorem A0_d {f : Nat} (hz : (7 ≤ k ∧ k < 12) ∨ k = 32) : A0 k f = if f = 0 then 3 else if f = 1 then 60 else 0 := by
  unfold A0
  rw [if_neg (show ¬ k = 0 by omega), if_neg (show ¬ ((2 ≤ k ∧ k < 6) ∨ k = 31) by omega), if_pos hz]
theorem A0_b {f : Nat} (hz : 24 ≤ k ∧ k < 31) : A0 k f = if f = 0 then -1 else 0 := by
  unfold A0
  rw [if_neg (show ¬ k = 0 by omega), if_neg (show ¬ ((2 ≤ k ∧ k < 6) ∨ k = 31) by omega), if_neg (show ¬ ((7 ≤ k ∧ k < 12) ∨ k = 32) by omega), if_pos hz]
theorem ite2 {a x f n m : Nat} {u v z : Int32} {g : Int32} : (if a = x ∧ f = n then u else if a = x ∧ f = m then v else if a = x then z else g) = if a = x then (if f = n then u else if f = m then v else z) else g := by
  by_cases w : a = x
  · rw [if_pos w, if_pos w]
    by_cases h1 : f = n
    · rw [if_pos ⟨w, h1⟩, if_pos h1]
    · rw [if_neg (fun q => h1 q.2), if_neg h1]
      by_cases h2 : f = m
      · rw [if_pos ⟨w, h2⟩, if_pos h2]
      · rw [if_neg (fun q => h2 q.2), if_neg h2]
  · rw [if_neg (fun q => w q.1), if_neg (fun q => w q.1), if_neg w, if_neg w]
theorem ite1 {a x f n : Nat} {u z : Int32} {g : Int32} : (if a = x ∧ f = n then u else if a = x then z else g) = if a = x then (if f = n then u else z) else g := by
  by_cases w : a = x
  · rw [if_pos w, if_pos w]
    by_cases h1 : f = n
    · rw [if_pos ⟨w, h1⟩, if_pos h1]
    · rw [if_neg (fun q => h1 q.2), if_neg h1]
  · rw [if_neg (fun q => w q.1), if_neg w, if_neg w]
theorem shM_heat (ht : tg pr pf = k) (hu : ∀ r f, tg r f = k → r = pr ∧ f = pf) (hz : (2 ≤ k ∧ k < 6) ∨ k = 31) : uR (uI (uI (uN (shM B S k) (S + k)) (S + k) 1 900) (S + k) 2 1100) (S + pr) pf (some (S + k)) = shM B S (k + 1) := by
  refine shM_step ht hu (fun a f => ?_) (fun a f => rfl) fun a f => rfl
  show (if a = S + k ∧ f = 2 then 1100 else if a = S + k ∧ f = 1 then 900 else if a = S + k then 0 else (shM B S k).1 a f) = _
  rw [A0_h hz, ite2]
  congr 1
  rcases (by omega : f = 1 ∨ f = 2 ∨ (f ≠ 1 ∧ f ≠ 2)) with rfl | rfl | ⟨h1, h2⟩
  · rfl
  · rfl
  · rw [if_neg h2, if_neg h1, if_neg h1, if_neg h2]
theorem shM_die (ht : tg pr pf = k) (hu : ∀ r f, tg r f = k → r = pr ∧ f = pf) (hz : (7 ≤ k ∧ k < 12) ∨ k = 32) : uR (uI (uI (uN (shM B S k) (S + k)) (S + k) 0 3) (S + k) 1 60) (S + pr) pf (some (S + k)) = shM B S (k + 1) := by
  refine shM_step ht hu (fun a f => ?_) (fun a f => rfl) fun a f => rfl
  show (if a = S + k ∧ f = 1 then 60 else if a = S + k ∧ f = 0 then 3 else if a = S + k then 0 else (shM B S k).1 a f) = _
  rw [A0_d hz, ite2]
  congr 1
  rcases (by omega : f = 0 ∨ f = 1 ∨ (f ≠ 0 ∧ f ≠ 1)) with rfl | rfl | ⟨h1, h2⟩
  · rfl
  · rfl
  · rw [if_neg h2, if_neg h1, if_neg h1, if_neg h2]
theorem shM_bil (ht : tg pr pf = k) (hu : ∀ r f, tg r f = k → r = pr ∧ f = pf) (hz : 24 ≤ k ∧ k < 31) : uR (uI (uN (shM B S k) (S + k)) (S + k) 0 (-1)) (S + pr) pf (some (S + k)) = shM B S (k + 1) := by
  refine shM_step ht hu (fun a f => ?_) (fun a f => rfl) fun a f => rfl
  show (if a = S + k ∧ f = 0 then -1 else if a = S + k then 0 else (shM B S k).1 a f) = _
  rw [A0_b hz, ite1]
theorem kdN (hS : isShop S) {a r κ : Nat} (e : a = S + r) (hr : r < 34) (hk : m_sk r = κ) : m_kd a = κ := by
  rw [e, (kdS hS hr).1, hk]
theorem tpN (hS : isShop S) {n a r κ : Nat} (e : a = S + r) (hr : r < 34) (hn : a < n) (hk : m_sk r = κ) : m_tp n a κ := ⟨hn, kdN hS e hr hk⟩
theorem lnN (hS : isShop S) {a r l : Nat} (e : a = S + r) (hr : r < 34) (hk : m_sl r = l) : m_len a = l := by
  rw [e, lenS hS hr, hk]
theorem A0_z (h : k = 1 ∨ k = 6 ∨ k = 12 ∨ k = 23 ∨ (13 ≤ k ∧ k < 23) ∨ k = 33) : ∀ f, A0 k f = 0 := by
  intro f
  unfold A0
  rw [if_neg (by omega), if_neg (by omega), if_neg (by omega), if_neg (by omega)]
theorem x_shopNew (hS : isShop S) {P : Mem → Prop} (hp : P (shM B S 34)) : wp_X5_init (S + 1) (uN B S) S P := by
  have src := fun r f => tg_src (r := r) (f := f)
  -- the press, the rows that help, the end
  have L4 : ∀ f i, i + f = 6 → wpL_X5_init_153 (S + 1) P (f + 1) (23 + i) (shM B S (24 + i)) S (nI i) := by
    intro f
    induction f with
    | zero =>
      intro i hi
      have : i = 6 := by omega
      subst this
      refine ⟨tpN hS (r := 0) rfl (by omega) (by omega) rfl, S + 23, shM_rd (r := 0) (f := 3) (t := 23) rfl (by omega), tpN hS rfl (by omega) (by omega) rfl, fun _ => ⟨by omega, kdN hS (r := 30) (by omega) (by omega) rfl, fun M34 e34 => ⟨by omega, tpN hS (r := 30) (by omega) (by omega) (by omega) rfl, fun M35 e35 => ⟨rfl, tpN hS (r := 0) rfl (by omega) (by omega) rfl, fun M39 e39 => ?_⟩⟩⟩, fun e => ?_⟩
      · have s30 : M39 = shM B S 31 := by
          rw [e39, e35, e34]
          exact shM_bil (k := 30) (pr := 0) (pf := 4) rfl (fun r f => (src r f).2.2.2.2.1) (by omega)
        refine ⟨by omega, kdN hS (r := 31) (by omega) (by omega) rfl, fun M40 e40 => ⟨by omega, tpN hS (r := 31) (by omega) (by omega) (by omega) rfl, fun M41 e41 M42 e42 => ⟨rfl, tpN hS (r := 0) rfl (by omega) (by omega) rfl, fun M45 e45 => ?_⟩⟩⟩
        have s31 : M45 = shM B S 32 := by
          rw [e45, e42, e41, e40, s30]
          exact shM_heat (k := 31) (pr := 0) (pf := 16) rfl (fun r f => (src r f).2.2.2.2.2.1) (by omega)
        refine ⟨by omega, kdN hS (r := 32) (by omega) (by omega) rfl, fun M46 e46 => ⟨by omega, tpN hS (r := 32) (by omega) (by omega) (by omega) rfl, fun M47 e47 M48 e48 => ⟨rfl, tpN hS (r := 0) rfl (by omega) (by omega) rfl, fun M51 e51 => ?_⟩⟩⟩
        have s32 : M51 = shM B S 33 := by
          rw [e51, e48, e47, e46, s31]
          exact shM_die (k := 32) (pr := 0) (pf := 17) rfl (fun r f => (src r f).2.2.2.2.2.2.1) (by omega)
        refine ⟨by omega, kdN hS (r := 33) (by omega) (by omega) rfl, fun M52 e52 => ⟨by omega, rfl, tpN hS (r := 0) rfl (by omega) (by omega) rfl, fun M57 e57 => ⟨by omega, ?_⟩⟩⟩
        have s33 : M57 = shM B S 34 := by
          rw [e57, e52, s32]
          exact shM_new (k := 33) (pr := 0) (pf := 18) rfl (fun r f => (src r f).2.2.2.2.2.2.2.1) (A0_z (by omega))
        rw [s33]; exact hp
      · rw [lnN hS (r := 23) (l := 6) rfl (by omega) rfl] at e
        exact absurd (Int32.le_refl _) e
    | succ f ih =>
      intro i hi
      have hk : m_sk (24 + i) = 0 := skB (by omega)
      refine ⟨tpN hS (r := 0) rfl (by omega) (by omega) rfl, S + 23, shM_rd (r := 0) (f := 3) (t := 23) rfl (by omega), tpN hS rfl (by omega) (by omega) rfl, fun e => ?_, fun _ => ⟨S + 23, shM_rd (r := 0) (f := 3) (t := 23) rfl (by omega), by omega, kdN hS (r := 24 + i) (by omega) (by omega) hk, fun M59 e59 => ⟨by omega, tpN hS (r := 24 + i) (by omega) (by omega) (by omega) hk, fun M60 e60 => ⟨rfl, tpN hS (r := 23) rfl (by omega) (by omega) rfl, tpN hS (r := 24 + i) (by omega) (by omega) (by omega) hk, by rw [lnN hS (r := 23) rfl (by omega) rfl]; exact vpI (n := 6) rfl (by omega : i < 6) (by omega), fun M66 e66 v67 e67 => ?_⟩⟩⟩⟩
      · rw [lnN hS (r := 23) (l := 6) rfl (by omega) rfl] at e
        have := (nI_leI (by omega) (by omega)).mp e
        omega
      · have s1 : M66 = shM B S (24 + i + 1) := by
          rw [e66, e60, e59, nI_clamp (by omega), show S + 1 + (23 + i) = S + (24 + i) by omega]
          exact shM_bil (k := 24 + i) (pr := 23) (pf := i) (by unfold tg; rw [if_neg (by omega), if_neg (by omega), if_neg (by omega), if_neg (by omega), if_pos (by omega)]) (fun r f => (src r f).2.2.2.2.2.2.2.2.2.2.2 i (by omega)) (by omega)
        rw [s1, e67, nI_1]
        exact ih (i + 1) (by omega)
  have L3 : ∀ f i, i + f = 10 → wpL_X5_init_114 (S + 1) P (f + 1) (12 + i) (shM B S (13 + i)) S (nI i) := by
    intro f
    induction f with
    | zero =>
      intro i hi
      have : i = 10 := by omega
      subst this
      refine ⟨tpN hS (r := 0) rfl (by omega) (by omega) rfl, S + 12, shM_rd (r := 0) (f := 2) (t := 12) rfl (by omega), tpN hS rfl (by omega) (by omega) rfl, fun _ => ⟨by omega, kdN hS (r := 23) (by omega) (by omega) rfl, lnN hS (r := 23) (by omega) (by omega) rfl, fun M27 e27 => ⟨tpN hS (r := 0) rfl (by omega) (by omega) rfl, fun M30 e30 => ⟨7, ?_⟩⟩⟩, fun e => ?_⟩
      · have s1 : M30 = shM B S 24 := by
          rw [e30, e27]
          exact shM_new (k := 23) (pr := 0) (pf := 3) rfl (fun r f => (src r f).2.2.2.1) (A0_z (by omega))
        rw [s1]
        exact L4 6 0 (by omega)
      · rw [lnN hS (r := 12) (l := 10) rfl (by omega) rfl] at e
        exact absurd (Int32.le_refl _) e
    | succ f ih =>
      intro i hi
      have hk : m_sk (13 + i) = 3 := skJ (by omega)
      refine ⟨tpN hS (r := 0) rfl (by omega) (by omega) rfl, S + 12, shM_rd (r := 0) (f := 2) (t := 12) rfl (by omega), tpN hS rfl (by omega) (by omega) rfl, fun e => ?_, fun _ => ⟨S + 12, shM_rd (r := 0) (f := 2) (t := 12) rfl (by omega), by omega, kdN hS (r := 13 + i) (by omega) (by omega) hk, fun M59 e59 => ⟨by omega, rfl, tpN hS (r := 12) rfl (by omega) (by omega) rfl, tpN hS (r := 13 + i) (by omega) (by omega) (by omega) hk, by rw [lnN hS (r := 12) rfl (by omega) rfl]; exact vpI (n := 10) rfl (by omega : i < 10) (by omega), fun M66 e66 v67 e67 => ?_⟩⟩⟩
      · rw [lnN hS (r := 12) (l := 10) rfl (by omega) rfl] at e
        have := (nI_leI (by omega) (by omega)).mp e
        omega
      · have s1 : M66 = shM B S (13 + i + 1) := by
          rw [e66, e59, nI_clamp (by omega), show S + 1 + (12 + i) = S + (13 + i) by omega]
          exact shM_new (k := 13 + i) (pr := 12) (pf := i) (by unfold tg; rw [if_neg (by omega), if_neg (by omega), if_neg (by omega), if_pos (by omega)]) (fun r f => (src r f).2.2.2.2.2.2.2.2.2.2.1 i (by omega)) (A0_z (by omega))
        rw [s1, e67, nI_1]
        exact ih (i + 1) (by omega)
  have L2 : ∀ f i, i + f = 5 → wpL_X5_init_75 (S + 1) P (f + 1) (6 + i) (shM B S (7 + i)) S (nI i) := by
    intro f
    induction f with
    | zero =>
      intro i hi
      have : i = 5 := by omega
      subst this
      refine ⟨tpN hS (r := 0) rfl (by omega) (by omega) rfl, S + 6, shM_rd (r := 0) (f := 1) (t := 6) rfl (by omega), tpN hS rfl (by omega) (by omega) rfl, fun _ => ⟨by omega, kdN hS (r := 12) (by omega) (by omega) rfl, lnN hS (r := 12) (by omega) (by omega) rfl, fun M27 e27 => ⟨tpN hS (r := 0) rfl (by omega) (by omega) rfl, fun M30 e30 => ⟨11, ?_⟩⟩⟩, fun e => ?_⟩
      · have s1 : M30 = shM B S 13 := by
          rw [e30, e27]
          exact shM_new (k := 12) (pr := 0) (pf := 2) rfl (fun r f => (src r f).2.2.1) (A0_z (by omega))
        rw [s1]
        exact L3 10 0 (by omega)
      · rw [lnN hS (r := 6) (l := 5) rfl (by omega) rfl] at e
        exact absurd (Int32.le_refl _) e
    | succ f ih =>
      intro i hi
      have hk : m_sk (7 + i) = 1 := skD (by omega)
      refine ⟨tpN hS (r := 0) rfl (by omega) (by omega) rfl, S + 6, shM_rd (r := 0) (f := 1) (t := 6) rfl (by omega), tpN hS rfl (by omega) (by omega) rfl, fun e => ?_, fun _ => ⟨S + 6, shM_rd (r := 0) (f := 1) (t := 6) rfl (by omega), by omega, kdN hS (r := 7 + i) (by omega) (by omega) hk, fun M59 e59 => ⟨by omega, tpN hS (r := 7 + i) (by omega) (by omega) (by omega) hk, fun M60 e60 M61 e61 => ⟨rfl, tpN hS (r := 6) rfl (by omega) (by omega) rfl, tpN hS (r := 7 + i) (by omega) (by omega) (by omega) hk, by rw [lnN hS (r := 6) rfl (by omega) rfl]; exact vpI (n := 5) rfl (by omega : i < 5) (by omega), fun M66 e66 v67 e67 => ?_⟩⟩⟩⟩
      · rw [lnN hS (r := 6) (l := 5) rfl (by omega) rfl] at e
        have := (nI_leI (by omega) (by omega)).mp e
        omega
      · have s1 : M66 = shM B S (7 + i + 1) := by
          rw [e66, e61, e60, e59, nI_clamp (by omega), show S + 1 + (6 + i) = S + (7 + i) by omega]
          exact shM_die (k := 7 + i) (pr := 6) (pf := i) (by unfold tg; rw [if_neg (by omega), if_neg (by omega), if_pos (by omega)]) (fun r f => (src r f).2.2.2.2.2.2.2.2.2.1 i (by omega)) (by omega)
        rw [s1, e67, nI_1]
        exact ih (i + 1) (by omega)
  have L1 : ∀ f i, i + f = 4 → wpL_X5_init_37 (S + 1) P (f + 1) (1 + i) (shM B S (2 + i)) S (nI i) := by
    intro f
    induction f with
    | zero =>
      intro i hi
      have : i = 4 := by omega
      subst this
      refine ⟨tpN hS (r := 0) rfl (by omega) (by omega) rfl, S + 1, shM_rd (r := 0) (f := 0) (t := 1) rfl (by omega), tpN hS rfl (by omega) (by omega) rfl, fun _ => ⟨by omega, kdN hS (r := 6) (by omega) (by omega) rfl, lnN hS (r := 6) (by omega) (by omega) rfl, fun M27 e27 => ⟨tpN hS (r := 0) rfl (by omega) (by omega) rfl, fun M30 e30 => ⟨6, ?_⟩⟩⟩, fun e => ?_⟩
      · have s1 : M30 = shM B S 7 := by
          rw [e30, e27]
          exact shM_new (k := 6) (pr := 0) (pf := 1) rfl (fun r f => (src r f).2.1) (A0_z (by omega))
        rw [s1]
        exact L2 5 0 (by omega)
      · rw [lnN hS (r := 1) (l := 4) rfl (by omega) rfl] at e
        exact absurd (Int32.le_refl _) e
    | succ f ih =>
      intro i hi
      have hk : m_sk (2 + i) = 2 := skH (by omega)
      refine ⟨tpN hS (r := 0) rfl (by omega) (by omega) rfl, S + 1, shM_rd (r := 0) (f := 0) (t := 1) rfl (by omega), tpN hS rfl (by omega) (by omega) rfl, fun e => ?_, fun _ => ⟨S + 1, shM_rd (r := 0) (f := 0) (t := 1) rfl (by omega), by omega, kdN hS (r := 2 + i) (by omega) (by omega) hk, fun M59 e59 => ⟨by omega, tpN hS (r := 2 + i) (by omega) (by omega) (by omega) hk, fun M60 e60 M61 e61 => ⟨rfl, tpN hS (r := 1) rfl (by omega) (by omega) rfl, tpN hS (r := 2 + i) (by omega) (by omega) (by omega) hk, by rw [lnN hS (r := 1) rfl (by omega) rfl]; exact vpI (n := 4) rfl (by omega : i < 4) (by omega), fun M66 e66 v67 e67 => ?_⟩⟩⟩⟩
      · rw [lnN hS (r := 1) (l := 4) rfl (by omega) rfl] at e
        have := (nI_leI (by omega) (by omega)).mp e
        omega
      · have s1 : M66 = shM B S (2 + i + 1) := by
          rw [e66, e61, e60, e59, nI_clamp (by omega), show S + 1 + (1 + i) = S + (2 + i) by omega]
          exact shM_heat (k := 2 + i) (pr := 1) (pf := i) (by unfold tg; rw [if_neg (by omega), if_pos (by omega)]) (fun r f => (src r f).2.2.2.2.2.2.2.2.1 i (by omega)) (by omega)
        rw [s1, e67, nI_1]
        exact ih (i + 1) (by omega)
  refine ⟨tpN hS (r := 0) rfl (by omega) (by omega) rfl, fun M2 e2 M3 e3 M4 e4 M5 e5 => ⟨by omega, kdN hS (r := 1) (by omega) (by omega) rfl, lnN hS (r := 1) (by omega) (by omega) rfl, fun M6 e6 => ⟨tpN hS (r := 0) rfl (by omega) (by omega) rfl, fun M9 e9 => ⟨5, ?_⟩⟩⟩⟩
  have s0 : M5 = shM B S 1 := by
    rw [e5, e4, e3, e2]
    refine Prod.ext (funext fun a => funext fun f => ?_) (Prod.ext (funext fun a => funext fun f => ?_) (funext fun a => funext fun f => ?_))
    · show (if a = S ∧ f = 10 then 5 else if a = S ∧ f = 9 then 1 else if a = S ∧ f = 8 then 40 else if a = S ∧ f = 7 then 150 else if a = S then 0 else B.1 a f) = if S ≤ a ∧ a < S + 1 then A0 (a - S) f else B.1 a f
      by_cases w : a = S
      · rw [if_pos (by omega : S ≤ a ∧ a < S + 1), show a - S = 0 by omega]
        unfold A0
        rw [if_pos rfl]
        by_cases w7 : f = 7
        · rw [if_neg (by omega), if_neg (by omega), if_neg (by omega), if_pos ⟨w, w7⟩, if_pos w7]
        · by_cases w8 : f = 8
          · rw [if_neg (by omega), if_neg (by omega), if_pos ⟨w, w8⟩, if_neg w7, if_pos w8]
          · by_cases w9 : f = 9
            · rw [if_neg (by omega), if_pos ⟨w, w9⟩, if_neg w7, if_neg w8, if_pos w9]
            · by_cases w10 : f = 10
              · rw [if_pos ⟨w, w10⟩, if_neg w7, if_neg w8, if_neg w9, if_pos w10]
              · rw [if_neg (by omega), if_neg (by omega), if_neg (by omega), if_neg (by omega), if_pos w, if_neg w7, if_neg w8, if_neg w9, if_neg w10]
      · rw [if_neg (by omega), if_neg (by omega), if_neg (by omega), if_neg (by omega), if_neg w, if_neg (by omega)]
    · show (if a = S then none else B.2.1 a f) = if S ≤ a ∧ a < S + 1 then (if tg (a - S) f < 1 then some (S + tg (a - S) f) else none) else B.2.1 a f
      by_cases w : a = S
      · rw [if_pos w, if_pos (by omega), if_neg (by have := tg_gt (r := a - S) (f := f); omega)]
      · rw [if_neg w, if_neg (by omega)]
    · show (if a = S then 0 else B.2.2 a f) = if S ≤ a ∧ a < S + 1 then 0 else B.2.2 a f
      by_cases w : a = S
      · rw [if_pos w, if_pos (by omega)]
      · rw [if_neg w, if_neg (by omega)]
  have s1 : M9 = shM B S 2 := by
    rw [e9, e6, s0]
    exact shM_new (k := 1) (pr := 0) (pf := 0) rfl (fun r f => (src r f).1) (A0_z (by omega))
  rw [s1]
  exact L1 4 0 (by omega)
end SHI
