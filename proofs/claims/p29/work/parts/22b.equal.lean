/-! Values that are copies of each other stay so; what is told of them is the same. -/
section EQL
variable {E A : Ab} {c k p i N T : Nat}
theorem Cq.cp (h : Cq E A c) : Cp E A c := ⟨fun f a b => h.n a b, fun i hi f hf => h.h hi hf, fun d hd f hf => h.d hd hf, fun k hk f hf => h.j hk hf (by omega), fun p hp f hf => h.b hp hf⟩
theorem Cq.clr {x y : Int32} {n : Nat} (h : Cq E A c) (hn : n ≤ 7) (e : x = y) : Cq (clrA E x n) (clrA A y n) c := fun r f v => by
  subst e
  unfold clrA
  by_cases w : 24 ≤ r ∧ r < 24 + n ∧ f = 0
  · rw [h r 0 (by unfold vis; omega), h r f v]
  · rw [if_neg (fun q => w ⟨q.1, q.2.1, q.2.2.1⟩), if_neg (fun q => w ⟨q.1, q.2.1, q.2.2.1⟩)]
    exact h r f v
theorem Cq.drop (h : Cq E A c) (ok : okN A c) (hk : k < c) : Cq (dropA E c k) (dropA A c k) (c - 1) := by
  have hh := (ok.h hk).1
  unfold dropA
  rw [h.ehj hk]
  refine Cq.rem ((h.clr (by omega) (h.j hk (by omega) (by omega))).up ?_) ok.2.1
  rw [h.h hh (by omega), h.j hk (by omega) (by omega)]
theorem Cq.hsz {z : Bool} (h : Cq E A c) (hc : c ≤ 10) (hk : k < c) (hp : p < c) : Cq (hasZ E k p z) (hasZ A k p z) c :=
  (h.up (r := 13 + k) (f := 6) (v := bI z) rfl).rows (mv_perm hk hp).1 hc
theorem Cq.add {d g pc u : Int32} {z : Bool} {q : Nat} (h : Cq E A c) (hc : c < 10) (hq : q < c + 1) : Cq (addQ E c d g pc u z q) (addQ A c d g pc u z q) (c + 1) := by
  have key : Cq (addA E c d g pc u z) (addA A c d g pc u z) (c + 1) := fun r f v => by
    obtain ⟨a0, a1, a2, a3, a4, a5, a6, a7⟩ := add_c (A := A) (c := c) (d := d) (g := g) (p := pc) (u := u) (z := z)
    obtain ⟨b0, b1, b2, b3, b4, b5, b6, b7⟩ := add_c (A := E) (c := c) (d := d) (g := g) (p := pc) (u := u) (z := z)
    by_cases r0 : r = 0
    · subst r0
      by_cases f5 : f = 5
      · subst f5; rw [add_5, add_5]
      · by_cases f6 : f = 6
        · subst f6; rw [add_6, add_6, h.n (by omega) (by omega)]
        · rw [add_0 f5 f6, add_0 f5 f6]
          exact h 0 f (by unfold vis at *; omega)
    · by_cases rc : r = 13 + c
      · subst rc
        have hf : f < 8 := by unfold vis at v; omega
        rcases (by omega : f = 0 ∨ f = 1 ∨ f = 2 ∨ f = 3 ∨ f = 4 ∨ f = 5 ∨ f = 6 ∨ f = 7) with rfl | rfl | rfl | rfl | rfl | rfl | rfl | rfl
        · rw [a0, b0]; exact h.n (by omega) (by omega)
        · rw [a1, b1]
        · rw [a2, b2]
        · rw [a3, b3]
        · rw [a4, b4]
        · rw [a5, b5]
        · rw [a6, b6]
        · rw [a7, b7]
      · rw [add_r r0 rc, add_r r0 rc]
        exact h r f (by unfold vis at *; omega)
  exact Cq.rows key (mv_perm (k := c) (p := q) (c := c + 1) (by omega) hq).1 (by omega)
/-- a job has one place alone in the order -/
theorem mv_one {B : Ab} {p' : Nat} (hc : c ≤ 10) (hk : k < c) (hp : p < c) (hp' : p' < c) (h : srt (rowsP B (mv k p)) c) (h' : srt (rowsP B (mv k p')) c) : ¬ p < p' := by
  intro hlt
  have e1 := h' p p' hlt hp'
  rw [rowsP_J (by omega), rowsP_J (by omega), mv_at] at e1
  have e2 := h p (p + 1) (by omega) (by omega)
  rw [rowsP_J (by omega), rowsP_J (by omega), mv_at] at e2
  have em : mv k p' p = mv k p (p + 1) := by
    unfold mv
    (repeat' split) <;> omega
  rw [em] at e1
  have := bef_asymm e1
  rw [e2] at this
  cases this
theorem mv_same {B : Ab} {p' : Nat} (hc : c ≤ 10) (hk : k < c) (hp : p < c) (hp' : p' < c) (h : srt (rowsP B (mv k p)) c) (h' : srt (rowsP B (mv k p')) c) : p = p' := by
  have h1 := mv_one hc hk hp hp' h h'
  have h2 := mv_one hc hk hp' hp h' h
  omega
theorem Cq.srted (h : Cq E A c) (s : srt A c) : srt E c := fun a b ha hb => by
  have := s a b ha hb
  rw [bef_iff] at this ⊢
  rw [h.j (i := a) (by omega) (f := 0) (by omega) (by omega), h.j (i := a) (by omega) (f := 5) (by omega) (by omega), h.j (i := a) (by omega) (f := 6) (by omega) (by omega), h.j hb (f := 0) (by omega) (by omega), h.j hb (f := 5) (by omega) (by omega), h.j hb (f := 6) (by omega) (by omega)]
  exact this
theorem Cq.scrap (h : Cq E A c) : scrapA E = scrapA A := foldN_congr fun j _ hj => funext fun a => by rw [h.h (by omega) (by omega)]
theorem Cq.num (h : Cq E A c) {s w : Int32} : numV E c s w = numV A c s w := by
  have e1 : rushA E c = rushA A c := foldN_congr fun j _ hj => funext fun a => by rw [h.j (by omega) (by omega) (by omega)]
  have e2 : furnA E = furnA A := foldN_congr fun j _ hj => funext fun a => by rw [h.b (by omega) (by omega)]
  unfold numV
  rw [e1, e2, h.made, h.scrap, h.ground, h.n (f := 11) (by omega) (by omega), h.n (f := 5) (by omega) (by omega), h.n (f := 12) (by omega) (by omega), h.n (f := 13) (by omega) (by omega), h.n (f := 14) (by omega) (by omega), h.n (f := 15) (by omega) (by omega)]
theorem Cq.vheat (h : Cq E A c) (hi : i < 4) {w : Int32} : heatV E c i w = heatV A c i w := by
  have e1 : ∀ x, bilOfA E c x = bilOfA A c x := fun x => foldN_congr fun j _ hj => funext fun a => by rw [h.j (f := 2) (by omega) (by omega) (by omega), h.j (f := 7) (by omega) (by omega) (by omega)]
  have e2 : ∀ x, lackOfA E c x = lackOfA A c x := fun x => foldN_congr fun j _ hj => funext fun a => by rw [h.j (f := 2) (by omega) (by omega) (by omega), h.lack (by omega)]
  unfold heatV
  rw [e1, e2, h.h hi (f := 0) (by omega), h.h hi (f := 1) (by omega), h.h hi (f := 2) (by omega), h.h hi (f := 3) (by omega), h.h hi (f := 4) (by omega)]
theorem Cq.vdie (h : Cq E A c) (hi : i < 5) {w : Int32} : dieV E i w = dieV A i w := by
  unfold dieV
  rw [h.d hi (f := 0) (by omega), h.d hi (f := 1) (by omega), h.d hi (f := 2) (by omega), h.d hi (f := 3) (by omega), h.d hi (f := 4) (by omega), h.d hi (f := 5) (by omega)]
theorem Cq.vbil (h : Cq E A c) (hi : i < 7) {w : Int32} : bilV E i w = bilV A i w := by
  unfold bilV
  rw [h.b hi (f := 0) (by omega), h.b hi (f := 1) (by omega), h.b hi (f := 2) (by omega), h.b hi (f := 3) (by omega)]
theorem Cq.vjob (h : Cq E A c) (ok : okN A c) (hk : k < c) {w : Int32} : jobV E k w = jobV A k w := by
  have hh := (ok.h hk).1
  have hd := (ok.d hk).1
  have e : reasonV E k = reasonV A k := by
    unfold reasonV
    rw [h.ehj hk, h.edj hk, h.hot hk hh, h.b6 (f := 0) (by omega), h.j hk (f := 0) (by omega) (by omega), h.d hd (f := 3) (by omega), h.d hd (f := 2) (by omega), h.d hd (f := 1) (by omega), h.j hk (f := 7) (by omega) (by omega), h.h hh (f := 0) (by omega)]
  unfold jobV
  rw [e, h.j hk (f := 0) (by omega) (by omega), h.j hk (f := 1) (by omega) (by omega), h.j hk (f := 2) (by omega) (by omega), h.j hk (f := 3) (by omega) (by omega), h.j hk (f := 4) (by omega) (by omega), h.j hk (f := 5) (by omega) (by omega), h.j hk (f := 6) (by omega) (by omega)]
end EQL
/-- a row of numbers, told as one -/
def tA (g : Nat → Int32) : Nat → Nat → Int64 → Int64
  | 0, _, h => h
  | f + 1, i, h => tA g f (i + 1) (31 * h + (g i).toInt64)
def tB (g : Nat → Nat → Int32) (m : Nat) : Nat → Nat → Int64 → Int64
  | 0, _, h => h
  | f + 1, i, h => tB g m f (i + 1) (tA (g i) m 0 h)
theorem tA_congr {g g' : Nat → Int32} : ∀ {f i : Nat} {h : Int64}, (∀ j, i ≤ j → j < i + f → g j = g' j) → tA g f i h = tA g' f i h := by
  intro f
  induction f with
  | zero => intros; rfl
  | succ f ih =>
    intro i h e
    show tA g f (i + 1) (31 * h + (g i).toInt64) = tA g' f (i + 1) (31 * h + (g' i).toInt64)
    rw [e i (Nat.le_refl i) (by omega)]
    exact ih fun j h1 h2 => e j (by omega) (by omega)
theorem tB_congr {g g' : Nat → Nat → Int32} {m : Nat} : ∀ {f i : Nat} {h : Int64}, (∀ j, i ≤ j → j < i + f → ∀ l, l < m → g j l = g' j l) → tB g m f i h = tB g' m f i h := by
  intro f
  induction f with
  | zero => intros; rfl
  | succ f ih =>
    intro i h e
    show tB g m f (i + 1) (tA (g i) m 0 h) = tB g' m f (i + 1) (tA (g' i) m 0 h)
    rw [tA_congr (g := g i) (g' := g' i) (fun l _ h2 => e i (Nat.le_refl i) (by omega) l (by omega))]
    exact ih fun j h1 h2 => e j (by omega) (by omega)
/-- all that is told of a value -/
def tol1 (A : Ab) (c : Nat) : Int64 := tA (fun w => numV A c 0 (nI w)) 11 0 3
def tol2 (A : Ab) (c : Nat) : Int64 := tA (fun w => A 0 (7 + w)) 4 0 (tol1 A c)
def tol3 (A : Ab) (c : Nat) : Int64 := tB (fun i w => heatV A c i (nI w)) 7 4 0 (tol2 A c)
def tol4 (A : Ab) (c : Nat) : Int64 := tB (fun i w => dieV A i (nI w)) 6 5 0 (tol3 A c)
def tol5 (A : Ab) (c : Nat) : Int64 := tB (fun i w => bilV A i (nI w)) 4 7 0 (tol4 A c)
def tol (A : Ab) (c : Nat) : Int64 := tB (fun i w => jobV A i (nI w)) 8 c 0 (tol5 A c)
theorem Cq.told {E A : Ab} {c : Nat} (h : Cq E A c) (ok : okN A c) : tol E c = tol A c := by
  unfold tol tol5 tol4 tol3 tol2 tol1
  rw [show (fun w => numV E c 0 (nI w)) = (fun w => numV A c 0 (nI w)) from funext fun w => h.num,
    tA_congr (g := fun w => E 0 (7 + w)) (g' := fun w => A 0 (7 + w)) (fun j _ hj => h.n (by omega) (by omega)),
    tB_congr (g := fun i w => heatV E c i (nI w)) (g' := fun i w => heatV A c i (nI w)) (fun j _ hj l _ => h.vheat (by omega)),
    tB_congr (g := fun i w => dieV E i (nI w)) (g' := fun i w => dieV A i (nI w)) (fun j _ hj l _ => h.vdie (by omega)),
    tB_congr (g := fun i w => bilV E i (nI w)) (g' := fun i w => bilV A i (nI w)) (fun j _ hj l _ => h.vbil (by omega)),
    tB_congr (g := fun i w => jobV E i (nI w)) (g' := fun i w => jobV A i (nI w)) (fun j _ hj l _ => h.vjob ok (by omega))]
