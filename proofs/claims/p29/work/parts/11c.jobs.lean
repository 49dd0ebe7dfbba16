/-! A job goes, comes, is dropped; a shop is copied. -/
def remA (A : Ab) (c i : Nat) : Ab := rowsP (aU A 0 5 (nI (c - 1))) (mv i (c - 1))
def clrA (A : Ab) (x : Int32) (n : Nat) : Ab := fun r f => if 24 ≤ r ∧ r < 24 + n ∧ f = 0 ∧ A r 0 = x then -1 else A r f
def dropA (A : Ab) (c i : Nat) : Ab := remA (aU (clrA A (A (13 + i) 0) 7) (2 + hj A i) 4 (A (2 + hj A i) 4 + A (13 + i) 7)) c i
def addA (A : Ab) (c : Nat) (d h p u : Int32) (z : Bool) : Ab := aU (aU (aU (aU (aU (aU (aU (aU (aU (aU A (13 + c) 0 (A 0 6)) (13 + c) 1 d) (13 + c) 2 h) (13 + c) 3 p) (13 + c) 4 0) (13 + c) 5 u) (13 + c) 6 (bI z)) (13 + c) 7 0) 0 6 (A 0 6 + 1)) 0 5 (nI (c + 1))
section JOBS
variable {B M M' : Mem} {S : Nat} {π : Nat → Nat} {A : Ab} {c : Nat}
theorem x_removeJob (h : CF B M S π A) (hc0 : A 0 5 = nI c) (hc : c ≤ 10) {i : Nat} (hi : i < c) {x : Int32} (hx : x = nI i) {P : Mem → Prop}
    (hp : ∀ M', CF B M' S (fun k => π (mv i (c - 1) k)) (remA A c i) → (∀ a f, a ≠ S → M'.1 a f = M.1 a f) → P M') : wp_X5_removeJob 278 M S x P := by
  subst hx
  refine ⟨h.tp0, fun M2 e2 => ⟨c - 1 - i + 1, ?_⟩⟩
  rw [h.N, hc0, show nI c - 1 = nI (c - 1) by
    have : c = (c - 1) + 1 := by omega
    rw [this, nI_pred]; rfl] at e2
  have h2 := h.uN e2
  have L : ∀ f p (M1 : Mem), p + f = c - 1 → i ≤ p → CF B M1 S (fun k => π (mv i p k)) (rowsP (aU A 0 5 (nI (c - 1))) (mv i p)) → M1.1 = M2.1 → wpL_X5_removeJob_12 278 P (f + 1) M1 S (nI p) := by
    intro f
    induction f with
    | zero =>
      intro p M1 hpf hip h1 e1
      have hpc : p = c - 1 := by omega
      subst hpc
      refine ⟨h1.tp0, fun _ => hp M1 h1 (fun a f ha => ?_), fun q => absurd (cGe (n := c - 1) (i := c - 1) ?_ rfl (by omega) (by omega)) q⟩
      · rw [e1, e2]
        exact uI_o (fun q => ha q.1)
      · rw [h1.N, rowsP_o (by omega), up_s]
    | succ f ih =>
      intro p M1 hpf hip h1 e1
      refine ⟨h1.tp0, fun q => absurd q (cLt (n := c - 1) (i := p) ?_ rfl (by omega) (by omega)), fun _ => x_swapJobs h1 (a := p) (b := p + 1) (by omega) (by omega) rfl (nI_1 p) fun M3 h3 e3 v hv => ?_⟩
      · rw [h1.N, rowsP_o (by omega), up_s]
      · rw [rowsP_comp (prm_sw (by omega) (by omega))] at h3
        simp only [mv_up hip] at h3
        rw [hv, nI_1]
        exact ih (p + 1) M3 (by omega) (by omega) h3 (e3.trans e1)
  exact L (c - 1 - i) i M2 (by omega) (Nat.le_refl i) (h2.mvSelf i) rfl
theorem x_hasten (h : CF B M S π A) (hc0 : A 0 5 = nI c) (hc : c ≤ 10) {i : Nat} (hi : i < c) (hs : srt A c) (hd : ∀ k, k < c → k ≠ i → A (13 + k) 0 ≠ A (13 + i) 0) {x : Int32} (hx : x = nI i) {z : Bool} {P : Int32 → Mem → Prop}
    (hp : ∀ p M', p < c → CF B M' S (fun k => π (mv i p k)) (rowsP (aU A (13 + i) 6 (bI z)) (mv i p)) → srt (rowsP (aU A (13 + i) 6 (bI z)) (mv i p)) c → P (nI p) M') : wp_X5_hasten 278 M S x z P := by
  refine ⟨h.tp0, x_jobAt h (k := i) (by omega) hx ⟨h.tpJ (by omega), fun M5 e5 => ?_⟩⟩
  have h5 := h.uJ (by omega) e5
  refine x_settle (c := c) h5 (by rw [up_r (by omega)]; exact hc0) hc hi ?_ ?_ hx fun p M' h1 h2 h3 h4 => hp p M' h1 h2 h4
  · intro a b hab hb ha hb2
    have e : ∀ k, k ≠ i → aU A (13 + i) 6 (bI z) (13 + k) = A (13 + k) := fun k hk => funext fun f => up_r (by omega)
    rw [e a ha, e b hb2]
    exact hs a b hab hb
  · intro k hk hki
    rw [up_r (by omega), up_f (by omega)]
    exact hd k hk hki
theorem x_addJob (h : CF B M S π A) (hc0 : A 0 5 = nI c) (hc : c < 10) (hs : srt A c) (hd : ∀ k, k < c → A (13 + k) 0 ≠ A 0 6) {d g p u : Int32} {z : Bool} {P : Int32 → Mem → Prop}
    (hp : ∀ q M', q < c + 1 → CF B M' S (fun k => π (mv c q k)) (rowsP (addA A c d g p u z) (mv c q)) → srt (rowsP (addA A c d g p u z) (mv c q)) (c + 1) → P (A 0 6) M') : wp_X5_addJob 278 M S d g p u z P := by
  refine ⟨h.tp0, x_jobAt h (k := c) (by omega) ((h.N 5).trans hc0) ⟨h.tpJ (by omega), fun M5 e5 M6 e6 M7 e7 M8 e8 M9 e9 M10 e10 M11 e11 M12 e12 M13 e13 M14 e14 => ?_⟩⟩
  rw [h.N] at e5
  have h5 := h.uJ (by omega) e5
  have h6 := h5.uJ (by omega) e6
  have h7 := h6.uJ (by omega) e7
  have h8 := h7.uJ (by omega) e8
  have h9 := h8.uJ (by omega) e9
  have h10 := h9.uJ (by omega) e10
  have h11 := h10.uJ (by omega) e11
  have h12 := h11.uJ (by omega) e12
  rw [h12.N] at e13
  have z0 : ∀ f, aU (aU (aU (aU (aU (aU (aU (aU A (13 + c) 0 (A 0 6)) (13 + c) 1 d) (13 + c) 2 g) (13 + c) 3 p) (13 + c) 4 0) (13 + c) 5 u) (13 + c) 6 (bI z)) (13 + c) 7 0 0 f = A 0 f := fun f => by
    rw [up_r (by omega), up_r (by omega), up_r (by omega), up_r (by omega), up_r (by omega), up_r (by omega), up_r (by omega), up_r (by omega)]
  rw [z0] at e13
  have h13 := h12.uN e13
  rw [h13.N, up_f (by omega), z0, hc0, nI_1] at e14
  have h14 : CF B M14 S π (addA A c d g p u z) := h13.uN e14
  have e5' : addA A c d g p u z 0 5 = nI (c + 1) := up_s
  have eo : ∀ k, k < c → addA A c d g p u z (13 + k) = A (13 + k) := fun k hk => by
    funext f
    unfold addA
    rw [up_r (by omega), up_r (by omega), up_r (by omega), up_r (by omega), up_r (by omega), up_r (by omega), up_r (by omega), up_r (by omega), up_r (by omega), up_r (by omega)]
  have en : addA A c d g p u z (13 + c) 0 = A 0 6 := by
    unfold addA
    rw [up_r (by omega), up_r (by omega), up_f (by omega), up_f (by omega), up_f (by omega), up_f (by omega), up_f (by omega), up_f (by omega), up_f (by omega), up_s]
  refine x_settle (c := c + 1) (i := c) h14 e5' (by omega) (by omega) ?_ ?_ (by rw [h14.N, e5', nI_pred]) fun q M' h1 h2 h3 h4 => ?_
  · intro a b hab hb ha hb2
    rw [eo a (by omega), eo b (by omega)]
    exact hs a b hab (by omega)
  · intro k hk hki
    rw [eo k (by omega), en]
    exact hd k (by omega)
  · rw [h3, h14.J (by omega), en]
    exact hp q M' h1 h2 h4
theorem x_dropJob (h : CF B M S π A) (ok : okN A c) {i : Nat} (hi : i < c) {x : Int32} (hx : x = nI i) {P : Int32 → Mem → Prop}
    (hp : ∀ M', CF B M' S (fun k => π (mv i (c - 1) k)) (dropA A c i) → P (A (13 + i) 7) M') : wp_X5_dropJob 278 M S x P := by
  have hc := ok.2.1
  have hh := ok.h hi
  refine ⟨h.tp0, x_jobAt h (k := i) (by omega) hx ⟨8, ?_⟩⟩
  have row : ∀ n k, k < 10 → clrA A (A (13 + i) 0) n (13 + k) = A (13 + k) := fun n k hk => by
    funext f
    unfold clrA
    rw [if_neg (by omega)]
  have L : ∀ f j (M1 : Mem), j + f = 7 → CF B M1 S π (clrA A (A (13 + i) 0) j) → wpL_X5_dropJob_8 278 P (f + 1) M1 S x (S + 13 + π i) (nI j) := by
    intro f
    induction f with
    | zero =>
      intro j M1 hjf h1
      have : j = 7 := by omega
      subst this
      have e2 : M1.1 (S + 13 + π i) 2 = nI (hj A i) := by rw [h1.J (by omega), row 7 i (by omega)]; exact hh.2
      refine ⟨fun _ => ⟨h1.tpJ (by omega), h1.tp0, x_heatAt h1 hh.1 e2 ⟨h1.tpH hh.1, fun M9 e9 => ?_⟩⟩, fun q => absurd (cGt (n := 6) (i := 7) rfl rfl (by omega) (by omega)) q⟩
      rw [h1.J (by omega), h1.H hh.1, row 7 i (by omega), show clrA A (A (13 + i) 0) 7 (2 + hj A i) 4 = A (2 + hj A i) 4 by unfold clrA; rw [if_neg (by omega)]] at e9
      have h9 := h1.uH hh.1 e9
      refine x_removeJob (c := c) h9 ?_ hc hi hx fun M10 h10 o10 => ?_
      · rw [up_r (by omega)]
        unfold clrA
        rw [if_neg (by omega)]
        exact ok.1
      · have hin := h.2.1.1 i (by omega)
        rw [o10 _ _ (by omega), h9.J (by omega), up_r (by omega), row 7 i (by omega)]
        exact hp M10 h10
    | succ f ih =>
      intro j M1 hjf h1
      refine ⟨fun q => absurd q (cNgt (n := 6) rfl rfl (by omega) (by omega)), fun _ => ⟨h1.tp0, x_billetAt h1 (i := j) (by omega) rfl ⟨h1.tpB (by omega), h1.tpJ (by omega), fun hne v hv => ?_, fun he M18 e18 v hv => ?_⟩⟩⟩
      · rw [hv, nI_1]
        refine ih (j + 1) M1 (by omega) ?_
        rw [h1.Bi (by omega), h1.J (by omega), row j i (by omega)] at hne
        rw [show clrA A (A (13 + i) 0) j (24 + j) 0 = A (24 + j) 0 by unfold clrA; rw [if_neg (by omega)]] at hne
        rw [show clrA A (A (13 + i) 0) (j + 1) = clrA A (A (13 + i) 0) j by
          funext r f
          unfold clrA
          by_cases q : r = 24 + j
          · subst q
            rw [if_neg (fun z => hne z.2.2.2), if_neg (by omega)]
          · by_cases q2 : 24 ≤ r ∧ r < 24 + j ∧ f = 0 ∧ A r 0 = A (13 + i) 0
            · rw [if_pos q2, if_pos ⟨q2.1, by omega, q2.2.2⟩]
            · rw [if_neg q2, if_neg (fun z => q2 ⟨z.1, by omega, z.2.2⟩)]]
        exact h1
      · rw [hv, nI_1]
        refine ih (j + 1) M18 (by omega) ?_
        have h18 := h1.uB (by omega) e18
        rw [h1.Bi (by omega), h1.J (by omega), row j i (by omega)] at he
        rw [show clrA A (A (13 + i) 0) j (24 + j) 0 = A (24 + j) 0 by unfold clrA; rw [if_neg (by omega)]] at he
        rw [show clrA A (A (13 + i) 0) (j + 1) = aU (clrA A (A (13 + i) 0) j) (24 + j) 0 (-1) by
          funext r f
          unfold aU clrA
          by_cases q : r = 24 + j ∧ f = 0
          · obtain ⟨rfl, rfl⟩ := q
            rw [if_pos ⟨by omega, by omega, rfl, he⟩, if_pos ⟨rfl, rfl⟩]
          · rw [if_neg q]
            by_cases q2 : 24 ≤ r ∧ r < 24 + j ∧ f = 0 ∧ A r 0 = A (13 + i) 0
            · rw [if_pos q2, if_pos ⟨q2.1, by omega, q2.2.2⟩]
            · rw [if_neg q2, if_neg (fun z => q2 ⟨z.1, by omega, z.2.2⟩)]]
        exact h18
  refine L 7 0 M rfl ?_
  rw [show clrA A (A (13 + i) 0) 0 = A by
    funext r f
    unfold clrA
    rw [if_neg (by omega)]]
  exact h
/-- A has what a copy of E holds -/
def Cp (A E : Ab) (c : Nat) : Prop := (∀ f, 5 ≤ f → f < 16 → A 0 f = E 0 f) ∧ (∀ h, h < 4 → ∀ f, f < 5 → A (2 + h) f = E (2 + h) f) ∧ (∀ d, d < 5 → ∀ f, f < 6 → A (7 + d) f = E (7 + d) f) ∧ (∀ k, k < c → ∀ f, f < 8 → A (13 + k) f = E (13 + k) f) ∧ ∀ p, p < 7 → ∀ f, f < 4 → A (24 + p) f = E (24 + p) f
theorem Cp.rf {A : Ab} {c : Nat} : Cp A A c := ⟨fun _ _ _ => rfl, fun _ _ _ _ => rfl, fun _ _ _ _ => rfl, fun _ _ _ _ => rfl, fun _ _ _ _ => rfl⟩
theorem Cp.tr {A E G : Ab} {c : Nat} (h : Cp A E c) (k : Cp E G c) : Cp A G c := ⟨fun f a b => (h.1 f a b).trans (k.1 f a b), fun i a f b => (h.2.1 i a f b).trans (k.2.1 i a f b), fun i a f b => (h.2.2.1 i a f b).trans (k.2.2.1 i a f b), fun i a f b => (h.2.2.2.1 i a f b).trans (k.2.2.2.1 i a f b), fun i a f b => (h.2.2.2.2 i a f b).trans (k.2.2.2.2 i a f b)⟩
/-- one row is overwritten in its first n fields -/
def rowC (A : Ab) (r n : Nat) (g : Nat → Int32) : Ab := fun r' f => if r' = r ∧ f < n then g f else A r' f
theorem rowC_0 {A : Ab} {r : Nat} {g : Nat → Int32} : rowC A r 0 g = A := by
  funext r' f
  unfold rowC
  rw [if_neg (by omega)]
theorem rowC_1 {A : Ab} {r n : Nat} {g : Nat → Int32} : aU (rowC A r n g) r n (g n) = rowC A r (n + 1) g := by
  funext r' f
  unfold aU rowC
  by_cases q : r' = r ∧ f = n
  · obtain ⟨rfl, rfl⟩ := q
    rw [if_pos ⟨rfl, rfl⟩, if_pos ⟨rfl, by omega⟩]
  · rw [if_neg q]
    by_cases q2 : r' = r ∧ f < n
    · rw [if_pos q2, if_pos ⟨q2.1, by omega⟩]
    · rw [if_neg q2, if_neg (fun z => q2 ⟨z.1, by omega⟩)]
theorem rowC_s {A : Ab} {r n f : Nat} {g : Nat → Int32} (h : f < n) : rowC A r n g r f = g f := by unfold rowC; rw [if_pos ⟨rfl, h⟩]
theorem rowC_o {A : Ab} {r n r' : Nat} {g : Nat → Int32} (h : r' ≠ r) : rowC A r n g r' = A r' := by funext f; unfold rowC; rw [if_neg (fun z => h z.1)]
theorem x2_copy (h : CF B M S π A) {i : Nat} (hi : i < 4) {s : Nat} (ts : m_tp 278 s 2) {g : Nat → Int32} (hs : ¬ (S ≤ s ∧ s < S + 34)) (hg : ∀ f, B.1 s f = g f) {P : Mem → Prop} (hp : ∀ M', CF B M' S π (rowC A (2 + i) 5 g) → P M') : wp_X2_copyFrom 278 M (S + 2 + i) s P := by
  have rd : ∀ {M1 : Mem} {A1 : Ab} (_ : CF B M1 S π A1) (f : Nat), M1.1 s f = g f := fun h1 f => by rw [(h1.fr.1 s hs).1, hg]
  have h0 := h
  rw [← rowC_0 (A := A) (r := 2 + i) (g := g)] at h0
  refine ⟨ts, h.tpH hi, fun M3 e3 M4 e4 M5 e5 M6 e6 M7 e7 => ?_⟩
  rw [rd h0] at e3
  have h3 := h0.uH hi e3
  rw [rowC_1] at h3
  rw [rd h3] at e4
  have h4 := h3.uH hi e4
  rw [rowC_1] at h4
  rw [rd h4] at e5
  have h5 := h4.uH hi e5
  rw [rowC_1] at h5
  rw [rd h5] at e6
  have h6 := h5.uH hi e6
  rw [rowC_1] at h6
  rw [rd h6] at e7
  have h7 := h6.uH hi e7
  rw [rowC_1] at h7
  exact hp M7 h7
theorem x1_copy (h : CF B M S π A) {i : Nat} (hi : i < 5) {s : Nat} (ts : m_tp 278 s 1) {g : Nat → Int32} (hs : ¬ (S ≤ s ∧ s < S + 34)) (hg : ∀ f, B.1 s f = g f) {P : Mem → Prop} (hp : ∀ M', CF B M' S π (rowC A (7 + i) 6 g) → P M') : wp_X1_copyFrom 278 M (S + 7 + i) s P := by
  have rd : ∀ {M1 : Mem} {A1 : Ab} (_ : CF B M1 S π A1) (f : Nat), M1.1 s f = g f := fun h1 f => by rw [(h1.fr.1 s hs).1, hg]
  have h0 := h
  rw [← rowC_0 (A := A) (r := 7 + i) (g := g)] at h0
  refine ⟨ts, h.tpD hi, fun M3 e3 M4 e4 M5 e5 M6 e6 M7 e7 M8 e8 => ?_⟩
  rw [rd h0] at e3
  have h3 := h0.uD hi e3
  rw [rowC_1] at h3
  rw [rd h3] at e4
  have h4 := h3.uD hi e4
  rw [rowC_1] at h4
  rw [rd h4] at e5
  have h5 := h4.uD hi e5
  rw [rowC_1] at h5
  rw [rd h5] at e6
  have h6 := h5.uD hi e6
  rw [rowC_1] at h6
  rw [rd h6] at e7
  have h7 := h6.uD hi e7
  rw [rowC_1] at h7
  rw [rd h7] at e8
  have h8 := h7.uD hi e8
  rw [rowC_1] at h8
  exact hp M8 h8
theorem x0_copy (h : CF B M S π A) {i : Nat} (hi : i < 7) {s : Nat} (ts : m_tp 278 s 0) {g : Nat → Int32} (hs : ¬ (S ≤ s ∧ s < S + 34)) (hg : ∀ f, B.1 s f = g f) {P : Mem → Prop} (hp : ∀ M', CF B M' S π (rowC A (24 + i) 4 g) → P M') : wp_X0_copyFrom 278 M (S + 24 + i) s P := by
  have rd : ∀ {M1 : Mem} {A1 : Ab} (_ : CF B M1 S π A1) (f : Nat), M1.1 s f = g f := fun h1 f => by rw [(h1.fr.1 s hs).1, hg]
  have h0 := h
  rw [← rowC_0 (A := A) (r := 24 + i) (g := g)] at h0
  refine ⟨ts, h.tpB hi, fun M3 e3 M4 e4 M5 e5 M6 e6 => ?_⟩
  rw [rd h0] at e3
  have h3 := h0.uB hi e3
  rw [rowC_1] at h3
  rw [rd h3] at e4
  have h4 := h3.uB hi e4
  rw [rowC_1] at h4
  rw [rd h4] at e5
  have h5 := h4.uB hi e5
  rw [rowC_1] at h5
  rw [rd h5] at e6
  have h6 := h5.uB hi e6
  rw [rowC_1] at h6
  exact hp M6 h6
theorem bI_01 {x : Int32} (h : x = 0 ∨ x = 1) : bI (x != 0) = x := by rcases h with rfl | rfl <;> decide
theorem x3_copy (h : CF B M S π A) {k : Nat} (hk : k < 10) {s : Nat} (ts : m_tp 278 s 3) {g : Nat → Int32} (hs : ¬ (S ≤ s ∧ s < S + 34)) (hg : ∀ f, B.1 s f = g f) (h6 : g 6 = 0 ∨ g 6 = 1) {P : Mem → Prop} (hp : ∀ M', CF B M' S π (rowC A (13 + k) 8 g) → P M') : wp_X3_copyFrom 278 M (S + 13 + π k) s P := by
  have rd : ∀ {M1 : Mem} {A1 : Ab} (_ : CF B M1 S π A1) (f : Nat), M1.1 s f = g f := fun h1 f => by rw [(h1.fr.1 s hs).1, hg]
  have h0 := h
  rw [← rowC_0 (A := A) (r := 13 + k) (g := g)] at h0
  refine ⟨ts, h.tpJ hk, fun M3 e3 M4 e4 M5 e5 M6 e6 M7 e7 M8 e8 M9 e9 M10 e10 => ?_⟩
  rw [rd h0] at e3
  have h3 := h0.uJ hk e3
  rw [rowC_1] at h3
  rw [rd h3] at e4
  have h4 := h3.uJ hk e4
  rw [rowC_1] at h4
  rw [rd h4] at e5
  have h5 := h4.uJ hk e5
  rw [rowC_1] at h5
  rw [rd h5] at e6
  have h6' := h5.uJ hk e6
  rw [rowC_1] at h6'
  rw [rd h6'] at e7
  have h7 := h6'.uJ hk e7
  rw [rowC_1] at h7
  rw [rd h7] at e8
  have h8 := h7.uJ hk e8
  rw [rowC_1] at h8
  rw [rd h8, bI_01 h6] at e9
  have h9 := h8.uJ hk e9
  rw [rowC_1] at h9
  rw [rd h9] at e10
  have h10 := h9.uJ hk e10
  rw [rowC_1] at h10
  exact hp M10 h10
/-- the shop S becomes a copy of the shop T -/
theorem x_copyFrom (h : CF M M S π A) {T : Nat} {τ : Nat → Nat} {E : Ab} (k : CF M M T τ E) (ok : okN E c) (hST : S + 34 ≤ T ∨ T + 34 ≤ S) {P : Mem → Prop} (hp : ∀ M' A', CF M M' S π A' → Cp A' E c → P M') : wp_X5_copyFrom 278 M S T P := by
  have hc := ok.2.1
  -- the other shop stays as it is
  have kk : ∀ {M1 : Mem} {A1 : Ab}, CF M M1 S π A1 → CF M1 M1 T τ E := fun {M1 A1} h1 => by
    refine ⟨k.1, k.2.1, ?_, fun r hr f => ?_, FrS.rf⟩
    · have e : ∀ a, ¬ (S ≤ a ∧ a < S + 34) → M1.2.1 a = M.2.1 a := fun a ha => (h1.fr.1 a ha).2
      have k3 := k.2.2.1
      unfold refsS at k3 ⊢
      rwa [e T (by omega), e (T + 1) (by omega), e (T + 6) (by omega), e (T + 12) (by omega), e (T + 23) (by omega)]
    · have hin := adr_in (S := T) k.2.1 hr
      rw [(h1.fr.1 _ (by omega)).1]
      exact k.at hr f
  have fld : ∀ (M1 : Mem) (A1 : Ab), CF M M1 S π A1 → (∀ h, h < 4 → ∀ f, f < 5 → A1 (2 + h) f = E (2 + h) f) → (∀ d, d < 5 → ∀ f, f < 6 → A1 (7 + d) f = E (7 + d) f) → (∀ k, k < c → ∀ f, f < 8 → A1 (13 + k) f = E (13 + k) f) → (∀ p, p < 7 → ∀ f, f < 4 → A1 (24 + p) f = E (24 + p) f) → wp_X5_copyNumbersFrom 278 M1 S T P := by
    intro M1 A1 h1 q1 q2 q3 q4
    have rd : ∀ {M2 : Mem} {A2 : Ab} (_ : CF M M2 S π A2) (f : Nat), M2.1 T f = E 0 f := fun h2 f => (kk h2).N f
    refine ⟨(kk h1).tp0, h1.tp0, fun M3 e3 M4 e4 M5 e5 M6 e6 M7 e7 M8 e8 M9 e9 M10 e10 M11 e11 M12 e12 M13 e13 => ?_⟩
    rw [rd h1] at e3
    have h3 := h1.uN e3
    rw [rd h3] at e4
    have h4 := h3.uN e4
    rw [rd h4] at e5
    have h5 := h4.uN e5
    rw [rd h5] at e6
    have h6 := h5.uN e6
    rw [rd h6] at e7
    have h7 := h6.uN e7
    rw [rd h7] at e8
    have h8 := h7.uN e8
    rw [rd h8] at e9
    have h9 := h8.uN e9
    rw [rd h9] at e10
    have h10 := h9.uN e10
    rw [rd h10] at e11
    have h11 := h10.uN e11
    rw [rd h11] at e12
    have h12 := h11.uN e12
    rw [rd h12] at e13
    have h13 := h12.uN e13
    refine hp M13 _ h13 ⟨fun f hf1 hf2 => ?_, fun i hi f hf => ?_, fun i hi f hf => ?_, fun i hi f hf => ?_, fun i hi f hf => ?_⟩
    · rcases (by omega : f = 5 ∨ f = 6 ∨ f = 7 ∨ f = 8 ∨ f = 9 ∨ f = 10 ∨ f = 11 ∨ f = 12 ∨ f = 13 ∨ f = 14 ∨ f = 15) with rfl | rfl | rfl | rfl | rfl | rfl | rfl | rfl | rfl | rfl | rfl <;> simp [aU]
    · simp only [aU, show ¬ (2 + i = 0) by omega, false_and, if_false]; exact q1 i hi f hf
    · simp only [aU, show ¬ (7 + i = 0) by omega, false_and, if_false]; exact q2 i hi f hf
    · simp only [aU, show ¬ (13 + i = 0) by omega, false_and, if_false]; exact q3 i hi f hf
    · simp only [aU, show ¬ (24 + i = 0) by omega, false_and, if_false]; exact q4 i hi f hf
  have L4 : ∀ f i (M1 : Mem) (A1 : Ab), i + f = 7 → CF M M1 S π A1 → (∀ h, h < 4 → ∀ f, f < 5 → A1 (2 + h) f = E (2 + h) f) → (∀ d, d < 5 → ∀ f, f < 6 → A1 (7 + d) f = E (7 + d) f) → (∀ k, k < c → ∀ f, f < 8 → A1 (13 + k) f = E (13 + k) f) → (∀ p, p < i → ∀ f, f < 4 → A1 (24 + p) f = E (24 + p) f) → wpL_X5_copyFrom_83 278 P (f + 1) M1 S T (nI i) := by
    intro f
    induction f with
    | zero =>
      intro i M1 A1 hi h1 q1 q2 q3 q4
      have : i = 7 := by omega
      subst this
      exact ⟨fun _ => ⟨h1.tp0, fld M1 A1 h1 q1 q2 q3 q4⟩, fun q => absurd (cGt (n := 6) (i := 7) rfl rfl (by omega) (by omega)) q⟩
    | succ f ih =>
      intro i M1 A1 hi h1 q1 q2 q3 q4
      refine ⟨fun q => absurd q (cNgt (n := 6) rfl rfl (by omega) (by omega)), fun _ => ⟨h1.tp0, x_billetAt h1 (i := i) (by omega) rfl ⟨(kk h1).tp0, x_billetAt (kk h1) (i := i) (by omega) rfl ⟨h1.tpB (by omega), x0_copy h1.base (by omega) ((kk h1).tpB (by omega)) (g := E (24 + i)) (by omega) (fun f => (kk h1).Bi (by omega) f) fun M2 h2 v hv => ?_⟩⟩⟩⟩
      rw [hv, nI_1]
      refine ih (i + 1) M2 _ (by omega) (h2.rebase h1.fr) ?_ ?_ ?_ ?_
      · intro j hj f hf; rw [rowC_o (by omega)]; exact q1 j hj f hf
      · intro j hj f hf; rw [rowC_o (by omega)]; exact q2 j hj f hf
      · intro j hj f hf; rw [rowC_o (by omega)]; exact q3 j hj f hf
      · intro j hj f hf
        by_cases e : j = i
        · subst e; rw [rowC_s hf]
        · rw [rowC_o (by omega)]; exact q4 j (by omega) f hf
  have L3 : ∀ f i (M1 : Mem) (A1 : Ab), i + f = c → CF M M1 S π A1 → (∀ h, h < 4 → ∀ f, f < 5 → A1 (2 + h) f = E (2 + h) f) → (∀ d, d < 5 → ∀ f, f < 6 → A1 (7 + d) f = E (7 + d) f) → (∀ k, k < i → ∀ f, f < 8 → A1 (13 + k) f = E (13 + k) f) → wpL_X5_copyFrom_54 278 P (f + 1) M1 S T (nI i) := by
    intro f
    induction f with
    | zero =>
      intro i M1 A1 hi h1 q1 q2 q3
      have : i = c := by omega
      subst this
      exact ⟨(kk h1).tp0, fun _ => ⟨8, L4 7 0 M1 A1 rfl h1 q1 q2 q3 (fun p hp => by omega)⟩, fun q => absurd (cGe (((kk h1).N 5).trans ok.1) rfl (by omega) (by omega)) q⟩
    | succ f ih =>
      intro i M1 A1 hi h1 q1 q2 q3
      refine ⟨(kk h1).tp0, fun q => absurd q (cLt (((kk h1).N 5).trans ok.1) rfl (by omega) (by omega)), fun _ => ⟨h1.tp0, x_jobAt h1 (k := i) (by omega) rfl (x_jobAt (kk h1) (k := i) (by omega) rfl ⟨h1.tpJ (by omega), x3_copy h1.base (by omega) ((kk h1).tpJ (by omega)) (g := E (13 + i)) ?_ (fun f => (kk h1).J (by omega) f) (ok.2.2 i (by omega)).2.2 fun M2 h2 v hv => ?_⟩)⟩⟩
      · have := k.2.1.1 i (by omega)
        omega
      rw [hv, nI_1]
      refine ih (i + 1) M2 _ (by omega) (h2.rebase h1.fr) ?_ ?_ ?_
      · intro j hj f hf; rw [rowC_o (by omega)]; exact q1 j hj f hf
      · intro j hj f hf; rw [rowC_o (by omega)]; exact q2 j hj f hf
      · intro j hj f hf
        by_cases e : j = i
        · subst e; rw [rowC_s hf]
        · rw [rowC_o (by omega)]; exact q3 j (by omega) f hf
  have L2 : ∀ f i (M1 : Mem) (A1 : Ab), i + f = 5 → CF M M1 S π A1 → (∀ h, h < 4 → ∀ f, f < 5 → A1 (2 + h) f = E (2 + h) f) → (∀ d, d < i → ∀ f, f < 6 → A1 (7 + d) f = E (7 + d) f) → wpL_X5_copyFrom_28 278 P (f + 1) M1 S T (nI i) := by
    intro f
    induction f with
    | zero =>
      intro i M1 A1 hi h1 q1 q2
      have : i = 5 := by omega
      subst this
      exact ⟨fun _ => ⟨c + 1, L3 c 0 M1 A1 (by omega) h1 q1 q2 (fun p hp => by omega)⟩, fun q => absurd (cGe (n := 5) (i := 5) rfl rfl (by omega) (by omega)) q⟩
    | succ f ih =>
      intro i M1 A1 hi h1 q1 q2
      refine ⟨fun q => absurd q (cLt (n := 5) rfl rfl (by omega) (by omega)), fun _ => ⟨h1.tp0, x_dieAt h1 (i := i) (by omega) rfl ⟨(kk h1).tp0, x_dieAt (kk h1) (i := i) (by omega) rfl ⟨h1.tpD (by omega), x1_copy h1.base (by omega) ((kk h1).tpD (by omega)) (g := E (7 + i)) (by omega) (fun f => (kk h1).D (by omega) f) fun M2 h2 v hv => ?_⟩⟩⟩⟩
      rw [hv, nI_1]
      refine ih (i + 1) M2 _ (by omega) (h2.rebase h1.fr) ?_ ?_
      · intro j hj f hf; rw [rowC_o (by omega)]; exact q1 j hj f hf
      · intro j hj f hf
        by_cases e : j = i
        · subst e; rw [rowC_s hf]
        · rw [rowC_o (by omega)]; exact q2 j (by omega) f hf
  have L1 : ∀ f i (M1 : Mem) (A1 : Ab), i + f = 4 → CF M M1 S π A1 → (∀ h, h < i → ∀ f, f < 5 → A1 (2 + h) f = E (2 + h) f) → wpL_X5_copyFrom_2 278 P (f + 1) M1 S T (nI i) := by
    intro f
    induction f with
    | zero =>
      intro i M1 A1 hi h1 q1
      have : i = 4 := by omega
      subst this
      exact ⟨fun _ => ⟨6, L2 5 0 M1 A1 rfl h1 q1 (fun p hp => by omega)⟩, fun q => absurd (cGe (n := 4) (i := 4) rfl rfl (by omega) (by omega)) q⟩
    | succ f ih =>
      intro i M1 A1 hi h1 q1
      refine ⟨fun q => absurd q (cLt (n := 4) rfl rfl (by omega) (by omega)), fun _ => ⟨h1.tp0, x_heatAt h1 (i := i) (by omega) rfl ⟨(kk h1).tp0, x_heatAt (kk h1) (i := i) (by omega) rfl ⟨h1.tpH (by omega), x2_copy h1.base (by omega) ((kk h1).tpH (by omega)) (g := E (2 + i)) (by omega) (fun f => (kk h1).H (by omega) f) fun M2 h2 v hv => ?_⟩⟩⟩⟩
      rw [hv, nI_1]
      refine ih (i + 1) M2 _ (by omega) (h2.rebase h1.fr) ?_
      intro j hj f hf
      by_cases e : j = i
      · subst e; rw [rowC_s hf]
      · rw [rowC_o (by omega)]; exact q1 j (by omega) f hf
  exact ⟨5, L1 4 0 M A rfl h (fun p hp => by omega)⟩
end JOBS
