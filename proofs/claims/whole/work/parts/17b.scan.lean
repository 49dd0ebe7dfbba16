/-! The text: the class reads the whole buffer, counts the parts, reads a part. -/
def scan (q : Nat → Int32) : Nat → Nat → (Nat → Int32) → Nat × (Nat → Int32) × Bool
  | 0, i, s => (i, s, true)
  | f + 1, i, s => if okC s (q i) = true then scan q f (i + 1) (nxt s (q i)) else (i, nxt s (q i), false)
def rdP (q : Nat → Int32) : Nat → Nat → (Nat → Int32) → (Nat → Int32)
  | 0, _, s => s
  | f + 1, i, s => if q i = 59 then uS (nxt s (q i)) 2 (nI (i + 1)) else rdP q f (i + 1) (uS (nxt s (q i)) 2 (nI (i + 1)))
theorem nxt_o {s : Nat → Int32} {x : Int32} {k : Nat} (hk : k < 3) : nxt s x k = s k := by
  unfold nxt endC sepC
  repeat' split
  all_goals simp only [uS]
  all_goals (repeat' rw [if_neg (by omega)])
theorem scan_o {q : Nat → Int32} {k : Nat} (hk : k < 3) : ∀ {f i : Nat} {s : Nat → Int32}, (scan q f i s).2.1 k = s k := by
  intro f
  induction f with
  | zero => intro i s; rfl
  | succ f ih =>
    intro i s
    unfold scan
    split
    · rw [ih, nxt_o hk]
    · exact nxt_o hk
theorem scan_i {q : Nat → Int32} : ∀ {f i : Nat} {s : Nat → Int32}, ((scan q f i s).2.2 = true → (scan q f i s).1 = i + f) ∧ ((scan q f i s).2.2 = false → (scan q f i s).1 < i + f) := by
  intro f
  induction f with
  | zero => intro i s; exact ⟨fun _ => rfl, fun h => (by cases h)⟩
  | succ f ih =>
    intro i s
    unfold scan
    split
    · have := ih (i := i + 1) (s := nxt s (q i))
      exact ⟨fun h => by rw [this.1 h]; omega, fun h => by have := this.2 h; omega⟩
    · exact ⟨fun h => (by cases h), fun _ => (by show i < i + (f + 1); omega)⟩
section SCN
variable {B : Mem} {s q : Nat → Int32} {b : Nat}
theorem x_codeAt (h0 : B.2.1 274 0 = some 275) (hq : ∀ i, i < b → B.1 275 i = q i) (hb : b ≤ 60) {i : Nat} (hi : i < b) {x : Int32} (hx : x = nI i) {P : Int32 → Mem → Prop} (hp : P (q i) (wR B 274 s)) : wp_X4_codeAt 283 (wR B 274 s) 274 x P := by
  subst hx
  refine ⟨fun e => absurd e (nI_pos (by omega)), fun _ => ⟨tp4, 275, h0, tp9, fun e => ?_, fun _ => ⟨275, h0, tp9, by rw [len9]; exact vpI rfl (by omega : i < 60) (by omega), ?_⟩⟩⟩
  · rw [len9] at e
    exact absurd ((nI_leI (by omega) (by omega)).mp e) (by omega)
  · rw [nI_clamp (by omega), wR_o (by omega), hq i hi]; exact hp
theorem x_firstWrong (h0 : B.2.1 274 0 = some 275) (hq : ∀ i, i < b → B.1 275 i = q i) (hb : b ≤ 60) (h1 : s 1 = nI b) {P : Int32 → Mem → Prop} (hp : P (nI (scan q b 0 (uS (uS s 2 0) 3 0)).1) (wR B 274 (scan q b 0 (uS (uS s 2 0) 3 0)).2.1)) : wp_X4_firstWrong 283 (wR B 274 s) 274 P := by
  refine ⟨tp4, tp4, fun M2 e2 M3 e3 => ⟨b + 1, ?_⟩⟩
  rw [wR_uI] at e2
  rw [e2, wR_uI] at e3
  rw [e3]
  have L : ∀ f i (s1 : Nat → Int32), i + f = b → s1 1 = nI b → P (nI (scan q f i s1).1) (wR B 274 (scan q f i s1).2.1) → wpL_X4_firstWrong_6 283 P (f + 1) (wR B 274 s1) 274 (nI i) := by
    intro f
    induction f with
    | zero =>
      intro i s1 hi h1 hp1
      have : i = b := by omega
      subst this
      refine ⟨tp4, fun _ => ?_, fun e => absurd (cGe (by rw [wR_1]; exact h1) rfl (by omega) (by omega)) e⟩
      rw [wR_1, h1]; exact hp1
    | succ f ih =>
      intro i s1 hi h1 hp1
      refine ⟨tp4, fun e => absurd e (cLt (by rw [wR_1]; exact h1) rfl (by omega) (by omega)), fun _ => x_codeAt h0 hq hb (by omega) rfl (x_read ⟨fun e v9 h9 => ?_, fun e => ?_⟩)⟩
      · unfold scan at hp1
        rw [if_pos e] at hp1
        rw [h9, nI_1]
        exact ih (i + 1) _ (by omega) (by rw [nxt_o (by omega)]; exact h1) hp1
      · unfold scan at hp1
        rw [if_neg (by rw [e]; decide)] at hp1
        exact hp1
  exact L b 0 _ (by omega) (by rw [uS_o (by omega), uS_o (by omega)]; exact h1) hp
def fin3 (s : Nat → Int32) : Bool := decide (s 3 = 5) || (decide (s 3 = 7) || decide (s 3 = 8))
theorem x_isComplete (h0 : B.2.1 274 0 = some 275) (hq : ∀ i, i < b → B.1 275 i = q i) (hb : b ≤ 60) (h1 : s 1 = nI b) {P : Bool → Mem → Prop} (hp : ∀ s', s' 1 = nI b → P ((scan q b 0 (uS (uS s 2 0) 3 0)).2.2 && fin3 (scan q b 0 (uS (uS s 2 0) 3 0)).2.1) (wR B 274 s')) : wp_X4_isComplete 283 (wR B 274 s) 274 P := by
  have s1 : (scan q b 0 (uS (uS s 2 0) 3 0)).2.1 1 = nI b := by rw [scan_o (by omega), uS_o (by omega), uS_o (by omega)]; exact h1
  have hp1 := hp _ s1
  have hi := scan_i (q := q) (f := b) (i := 0) (s := uS (uS s 2 0) 3 0)
  refine ⟨tp4, x_firstWrong h0 hq hb h1 ?_⟩
  rw [wR_1, s1]
  generalize scan q b 0 (uS (uS s 2 0) 3 0) = r at hp1 hi s1 ⊢
  cases e : r.2.2 with
  | false =>
    rw [e] at hp1
    have := hi.2 e
    exact ⟨fun _ => hp1, fun z => absurd ((nI_eq (by omega) (by omega)).mp z) (by omega)⟩
  | true =>
    rw [e] at hp1
    have := hi.1 e
    refine ⟨fun z => absurd (by rw [this, Nat.zero_add]) z, fun _ => ⟨fun z => ?_, fun z => ⟨fun y => ?_, fun y => ?_⟩⟩⟩
    · have : fin3 r.2.1 = true := by unfold fin3; simp [z]
      rw [this] at hp1; exact hp1
    · have : fin3 r.2.1 = true := by unfold fin3; simp [y]
      rw [this] at hp1; exact hp1
    · have : fin3 r.2.1 = (if ¬ r.2.1 3 = 8 then false else true) := by
        unfold fin3
        by_cases w : r.2.1 3 = 8 <;> simp [z, y, w]
      rw [this] at hp1; exact hp1
theorem x_countParts (h0 : B.2.1 274 0 = some 275) (hq : ∀ i, i < b → B.1 275 i = q i) (hb : b ≤ 60) (h1 : s 1 = nI b) {P : Int32 → Mem → Prop} (hp : P (nI (1 + cntN (fun i => decide (q i = 59)) b)) (wR B 274 s)) : wp_X4_countParts 283 (wR B 274 s) 274 P := by
  refine ⟨b + 1, ?_⟩
  have L : ∀ f i, i + f = b → wpL_X4_countParts_4 283 P (f + 1) (wR B 274 s) 274 (nI (1 + cntN (fun i => decide (q i = 59)) i)) (nI i) := by
    intro f
    induction f with
    | zero =>
      intro i hi
      have : i = b := by omega
      subst this
      exact ⟨tp4, fun _ => hp, fun e => absurd (cGe (by rw [wR_1]; exact h1) rfl (by omega) (by omega)) e⟩
    | succ f ih =>
      intro i hi
      have key := ih (i + 1) (by omega)
      have e : cntN (fun i => decide (q i = 59)) (i + 1) = cntN (fun i => decide (q i = 59)) i + (if decide (q i = 59) = true then 1 else 0) := rfl
      rw [e] at key
      refine ⟨tp4, fun e => absurd e (cLt (by rw [wR_1]; exact h1) rfl (by omega) (by omega)), fun _ => x_codeAt h0 hq hb (by omega) rfl ⟨fun n v4 h4 => ?_, fun y v5 h5 v6 h6 => ?_⟩⟩
      · rw [if_neg (by simpa using n), Nat.add_zero] at key
        rw [h4, nI_1]; exact key
      · rw [if_pos (by simpa using y), ← Nat.add_assoc] at key
        rw [h5, h6, nI_1, nI_1]; exact key
  exact L b 0 (by omega)
theorem x_readPart (h0 : B.2.1 274 0 = some 275) (hq : ∀ i, i < b → B.1 275 i = q i) (hb : b ≤ 60) (h1 : s 1 = nI b) {i f : Nat} (hi : i + f = b) (h2 : s 2 = nI i) {P : Mem → Prop} (hp : P (wR B 274 (rdP q f i s))) : wp_X4_readPart 283 (wR B 274 s) 274 P := by
  refine ⟨f + 2, ?_⟩
  have L : ∀ f i (s1 : Nat → Int32), i + f = b → s1 1 = nI b → s1 2 = nI i → P (wR B 274 (rdP q f i s1)) → wpL_X4_readPart_2 283 P (f + 2) (wR B 274 s1) 274 1 := by
    intro f
    induction f with
    | zero =>
      intro i s1 hi h1 h2 hp1
      have : i = b := by omega
      subst this
      exact ⟨fun e => absurd e (by decide), fun _ => ⟨tp4, fun _ => hp1, fun e => absurd (by rw [wR_1, h1, h2]; exact Int32.le_refl _) e⟩⟩
    | succ f ih =>
      intro i s1 hi h1 h2 hp1
      refine ⟨fun e => absurd e (by decide), fun _ => ⟨tp4, fun e => ?_, fun _ => ?_⟩⟩
      · rw [wR_1, h1, h2] at e
        exact absurd ((nI_leI (by omega) (by omega)).mp e) (by omega)
      · rw [wR_1, h2]
        refine x_codeAt h0 hq hb (by omega) rfl (x_read ?_)
        have n2 : nxt s1 (q i) 2 = nI i := by rw [nxt_o (by omega)]; exact h2
        rw [wR_1, n2]
        refine x_codeAt h0 hq hb (by omega) rfl fun M8 e8 => ?_
        rw [wR_1, n2, nI_1, wR_uI] at e8
        rw [e8]
        unfold rdP at hp1
        by_cases y : q i = 59
        · rw [if_pos y] at hp1
          rw [if_pos y]
          exact ⟨fun _ => hp1, fun z => absurd rfl z⟩
        · rw [if_neg y] at hp1
          rw [if_neg y]
          exact ih (i + 1) _ (by omega) (by rw [uS_o (by omega), nxt_o (by omega)]; exact h1) uS_s hp1
  exact L f i s hi h1 h2 hp
end SCN
