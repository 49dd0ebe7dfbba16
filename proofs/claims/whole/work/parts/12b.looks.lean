/-! What is kept of a shop's value; the reference's looks at the jobs. -/
def cntN (p : Nat → Bool) : Nat → Nat
  | 0 => 0
  | n + 1 => cntN p n + (if p n = true then 1 else 0)
def iJ (A : Ab) (c N : Nat) : Prop := okN A c ∧ srt A c ∧ (∀ k, k < c → ∃ m, A (13 + k) 0 = nI m ∧ m < N) ∧ A 0 6 = nI N ∧ N < 1000000 ∧ (∀ k l, k < c → l < c → A (13 + k) 0 = A (13 + l) 0 → k = l) ∧ ∀ k, k < c → ∃ p m u, A (13 + k) 3 = nI p ∧ A (13 + k) 4 = nI m ∧ A (13 + k) 5 = nI u ∧ m < p ∧ p ≤ 40 ∧ u ≤ 9999
def iC (A : Ab) (c : Nat) : Prop := ∀ k, k < c → A (13 + k) 7 = nI (cntN (fun p => decide (A (24 + p) 0 = A (13 + k) 0)) 7)
def iB (A : Ab) (c : Nat) : Prop := (∀ p, p < 7 → A (24 + p) 0 = -1 ∨ ((∃ k, k < c ∧ A (24 + p) 0 = A (13 + k) 0) ∧ ∃ b, A (24 + p) 3 = nI b ∧ 1 ≤ b ∧ b ≤ 9)) ∧ ∀ p, p < 7 → ∃ t, A (24 + p) 1 = nI t ∧ t ≤ 1250
def iD (A : Ab) : Prop := (∀ d, d < 5 → ∃ b l g, A (7 + d) 0 = nI b ∧ 1 ≤ b ∧ b ≤ 9 ∧ A (7 + d) 1 = nI l ∧ l ≤ 300 ∧ A (7 + d) 3 = nI g ∧ g ≤ 30) ∧ ∀ d e, d < 5 → e < 5 → 0 < A (7 + d) 3 → 0 < A (7 + e) 3 → d = e
def iS (A : Ab) : Prop := ∃ w x r g, A 0 7 = nI w ∧ w ≤ 300 ∧ A 0 8 = nI x ∧ x ≤ 200 ∧ A 0 9 = nI r ∧ r ≤ 3 ∧ A 0 10 = nI g ∧ 1 ≤ g ∧ g ≤ 30
def iH (A : Ab) (T : Nat) : Prop := ∀ h, h < 4 → ∃ s a b, A (2 + h) 0 = nI s ∧ s ≤ 200 ∧ A (2 + h) 3 = nI a ∧ a ≤ T ∧ A (2 + h) 4 = nI b ∧ b ≤ T
def Inv (A : Ab) (c N T : Nat) : Prop := iJ A c N ∧ iC A c ∧ iB A c ∧ iD A ∧ iS A ∧ iH A T
theorem nI_sub_toInt {a b : Nat} (ha : a < 2 ^ 30) (hb : b < 2 ^ 30) : (nI a - nI b).toInt = (a : Int) - b := by
  rw [Int32.toInt_sub, nI_toInt (by omega), nI_toInt (by omega)]
  apply Int.bmod_eq_of_le <;> omega
theorem nI_sub0 {a b : Nat} (ha : a < 2 ^ 30) (hb : b < 2 ^ 30) : nI a - nI b = 0 ↔ a = b := by
  rw [← Int32.toInt_inj, nI_sub_toInt ha hb, show (0 : Int32).toInt = 0 from rfl]
  omega
theorem nI_subp {a b : Nat} (ha : a < 2 ^ 30) (hb : b < 2 ^ 30) : 0 < nI a - nI b ↔ b < a := by
  rw [Int32.lt_iff_toInt_lt, nI_sub_toInt ha hb, show (0 : Int32).toInt = 0 from rfl]
  omega
theorem nI_n1 {k : Nat} (h : k < 2 ^ 31) : nI k ≠ -1 := by
  intro e
  have := congrArg Int32.toInt e
  rw [nI_toInt h, show (-1 : Int32).toInt = -1 from rfl] at this
  omega
theorem oI_some {k : Nat} : oI (some k) = nI k := rfl
section RLOOK
variable {B : Mem} {A : Ab} {c N : Nat} {m : Int32} {ι : Nat → Nat} {σ : Nat → Int32}
theorem Rel.c5 (hR : Rel A c m ι σ) (ok : okN A c) : σ 5 = nI c := hR.1.2.2.1.trans ok.1
theorem Rel.job (hR : Rel A c m ι σ) {k f : Nat} (hk : k < c) (hf : f < 7) : σ (60 + 7 * ι k + f) = A (13 + k) f := hR.2.2.2.2.1.2.1 k hk f hf
theorem r_len5 (hB : RB B) {P : Int32 → Prop} (hp : P (σ 5)) : ∃ j2 : Nat, (sM B σ).2.1 276 1 = some j2 ∧ (m_tp 283 j2 8 ∧ (vp_in 5 (m_len j2) ∧ P ((sM B σ).1 j2 (5 : Int32).toNatClampNeg))) := ⟨277, hB.1, tp8, by rw [len8]; exact vpI (i := 5) rfl (by omega) (by omega), by rw [sM_1]; exact hp⟩
theorem idx_place (hR : Rel A c m ι σ) (hI : iJ A c N) (x : Int32) : fst9 (fun i => decide (σ (60 + 7 * i + 0) = x)) c 0 = (placeA A c x).map ι := by
  have hb := hR.2.2.2.2.1.1
  cases q : placeA A c x with
  | some k =>
    obtain ⟨-, hk, ek, -⟩ := fst9_some q
    have hk : k < c := by omega
    simp only [decide_eq_true_eq] at ek
    cases q2 : fst9 (fun i => decide (σ (60 + 7 * i + 0) = x)) c 0 with
    | none =>
      have := fst9_none q2 (ι k) (by omega) (by have := hb.1 k hk; omega)
      rw [hR.job hk (by omega)] at this
      simp [ek] at this
    | some i =>
      obtain ⟨-, hi, ei, -⟩ := fst9_some q2
      simp only [decide_eq_true_eq] at ei
      obtain ⟨k', hk', rfl⟩ := hb.2.2 i (by omega)
      rw [hR.job hk' (by omega)] at ei
      have := hI.2.2.2.2.2.1 k' k hk' hk (ei.trans ek.symm)
      rw [this]; rfl
  | none =>
    cases q2 : fst9 (fun i => decide (σ (60 + 7 * i + 0) = x)) c 0 with
    | none => rfl
    | some i =>
      obtain ⟨-, hi, ei, -⟩ := fst9_some q2
      simp only [decide_eq_true_eq] at ei
      obtain ⟨k', hk', rfl⟩ := hb.2.2 i (by omega)
      rw [hR.job hk' (by omega)] at ei
      have := fst9_none q k' (by omega) (by omega)
      simp [ei] at this
theorem r_jobWith (hB : RB B) (hR : Rel A c m ι σ) (hI : iJ A c N) {x : Int32} {P : Int32 → Mem → Prop} (hp : P (oI ((placeA A c x).map ι)) (sM B σ)) : wp_X7_jobWith 283 (sM B σ) 276 x P := by
  have hc := hI.1.2.1
  have c5 := hR.c5 hI.1
  rw [← idx_place hR hI x] at hp
  refine ⟨c + 1, ?_⟩
  have L : ∀ f i, i + f = c → P (oI (fst9 (fun i => decide (σ (60 + 7 * i + 0) = x)) f i)) (sM B σ) → wpL_X7_jobWith_2 283 P (f + 1) (sM B σ) 276 x (nI i) := by
    intro f
    induction f with
    | zero =>
      intro i hi hp
      exact ⟨tp7, r_len5 hB (P := fun z => (z ≤ nI i → _) ∧ (¬ z ≤ nI i → _)) ⟨fun _ => hp, fun k => absurd (cGe c5 rfl (by omega) (by omega)) k⟩⟩
    | succ f ih =>
      intro i hi hp
      refine ⟨tp7, r_len5 hB (P := fun z => (z ≤ nI i → _) ∧ (¬ z ≤ nI i → _)) ⟨fun k => absurd k (cLt c5 rfl (by omega) (by omega)), fun _ => r_job0 hB (k := i) (f := 0) (by omega) (by omega) rfl rfl ⟨fun hne v hv => ?_, fun he => ?_⟩⟩⟩
      · rw [hv, nI_1]
        refine ih (i + 1) (by omega) ?_
        unfold fst9 at hp
        rwa [if_neg (by simpa using hne)] at hp
      · unfold fst9 at hp
        rwa [if_pos (by simpa using he)] at hp
  exact L c 0 (by omega) hp
/-- the place in the order of the job of the billet p -/
def plB (A : Ab) (c p : Nat) : Option Nat := if A (24 + p) 0 = -1 then none else placeA A c (A (24 + p) 0)
theorem r_jobOn (hB : RB B) (hR : Rel A c m ι σ) (hI : iJ A c N) {p : Nat} (hp7 : p < 7) {x : Int32} (hx : x = nI p) {P : Int32 → Mem → Prop} (hp : P (oI ((plB A c p).map ι)) (sM B σ)) : wp_X7_jobOn 283 (sM B σ) 276 x P := by
  have e0 := (hR.2.2.2.2.2 p hp7).1
  refine ⟨tp7, r_billet0 hB hp7 (f := 0) (by omega) hx rfl ⟨fun e => r_billet0 hB hp7 (f := 0) (by omega) hx rfl ?_, fun e => ?_⟩⟩
  · rw [show 130 + 4 * p + 0 = 130 + 4 * p from rfl, e0] at e ⊢
    have hne : A (24 + p) 0 ≠ -1 := fun q => e (by rw [q]; decide)
    unfold plB at hp
    rw [if_neg hne] at hp
    rw [Int32.add_sub_cancel]
    exact r_jobWith hB hR hI hp
  · rw [show 130 + 4 * p + 0 = 130 + 4 * p from rfl, e0] at e
    have he : A (24 + p) 0 = -1 := by
      have : A (24 + p) 0 = (A (24 + p) 0 + 1) - 1 := (Int32.add_sub_cancel _ _).symm
      rw [this, e]; decide
    unfold plB at hp
    rw [if_pos he] at hp
    exact hp
theorem cntN_congr {p q : Nat → Bool} : ∀ {n : Nat}, (∀ j, j < n → p j = q j) → cntN p n = cntN q n := by
  intro n
  induction n with
  | zero => intro _; rfl
  | succ n ih => intro h; unfold cntN; rw [ih (fun j hj => h j (by omega)), h n (by omega)]
theorem cntN_false {p : Nat → Bool} : ∀ {n : Nat}, (∀ j, j < n → p j = false) → cntN p n = 0 := by
  intro n
  induction n with
  | zero => intro _; rfl
  | succ n ih => intro h; unfold cntN; rw [ih (fun j hj => h j (by omega)), h n (by omega)]; simp
/-- one more -/
theorem cntN_add {p q : Nat → Bool} {x : Nat} : ∀ {n : Nat}, x < n → p x = false → q x = true → (∀ j, j < n → j ≠ x → q j = p j) → cntN q n = cntN p n + 1 := by
  intro n
  induction n with
  | zero => intro h; omega
  | succ n ih =>
    intro hx hp hq h
    unfold cntN
    by_cases e : x = n
    · subst e
      rw [hp, hq, cntN_congr (p := q) (q := p) (fun j hj => h j (by omega) (by omega))]
      simp
    · rw [ih (by omega) hp hq (fun j hj hne => h j (by omega) hne), h n (by omega) (fun q => e q.symm)]
      omega
theorem cntN_le {p : Nat → Bool} : ∀ {n : Nat}, cntN p n ≤ n := by
  intro n
  induction n with
  | zero => exact Nat.le_refl _
  | succ n ih => unfold cntN; split <;> omega
/-- a one-to-one picture of the first k has k members -/
theorem cntN_bij {c : Nat} {ι : Nat → Nat} (hb : bij c ι) : ∀ k, k ≤ c → ∀ p : Nat → Bool, (∀ l, l < c → p (ι l) = decide (l < k)) → cntN p c = k := by
  intro k
  induction k with
  | zero =>
    intro _ p h
    refine cntN_false fun j hj => ?_
    obtain ⟨l, hl, rfl⟩ := hb.2.2 j hj
    rw [h l hl]; simp
  | succ k ih =>
    intro hk p h
    have h1 : cntN (fun i => p i && !(i == ι k)) c = k := ih (by omega) _ (fun l hl => by
      simp only [h l hl]
      by_cases e : l = k
      · subst e; simp
      · have : ι l ≠ ι k := fun q => e (hb.2.1 l k hl (by omega) q)
        have h3 : (ι l == ι k) = false := by simpa using this
        rw [h3]
        by_cases e2 : l < k
        · have : l < k + 1 := by omega
          simp [e2, this]
        · have : ¬ l < k + 1 := by omega
          simp [e2, this])
    rw [cntN_add (p := fun i => p i && !(i == ι k)) (q := p) (x := ι k) (hb.1 k (by omega)) (by simp) (by rw [h k (by omega)]; simp) (fun j hj hne => by
      have : (j == ι k) = false := by simpa using hne
      simp [this]), h1]
theorem r_isAhead (hB : RB B) (hR : Rel A c m ι σ) (hI : iJ A c N) {k l : Nat} (hk : k < c) (hl : l < c) {x y : Int32} (hx : x = nI (ι k)) (hy : y = nI (ι l)) {P : Bool → Mem → Prop} (hp : P (bef (A (13 + k)) (A (13 + l))) (sM B σ)) : wp_X7_isAhead 283 (sM B σ) 276 x y P := by
  have hc := hI.1.2.1
  have hb := hR.2.2.2.2.1.1
  have hik := hb.1 k hk
  have hil := hb.1 l hl
  obtain ⟨p1, m1, u1, -, -, eu1, -, -, hu1⟩ := hI.2.2.2.2.2.2 k hk
  obtain ⟨p2, m2, u2, -, -, eu2, -, -, hu2⟩ := hI.2.2.2.2.2.2 l hl
  refine ⟨tp7, r_job0 hB (k := ι k) (f := 6) (by omega) (by omega) hx rfl (r_job0 hB (k := ι l) (f := 6) (by omega) (by omega) hy rfl fun v6 h6 => r_job0 hB (k := ι l) (f := 5) (by omega) (by omega) hy rfl (r_job0 hB (k := ι k) (f := 5) (by omega) (by omega) hx rfl fun v11 h11 => ?_))⟩
  rw [hR.job hk (by omega), hR.job hl (by omega)] at h6
  rw [hR.job hk (by omega), hR.job hl (by omega), eu1, eu2] at h11
  subst hx hy
  have s0 : v11 = 0 ↔ u2 = u1 := by rw [h11]; exact nI_sub0 (by omega) (by omega)
  have sp : 0 < v11 ↔ u1 < u2 := by rw [h11]; exact nI_subp (by omega) (by omega)
  have e5 : A (13 + k) 5 = A (13 + l) 5 ↔ u2 = u1 := by
    rw [eu1, eu2, nI_eq (by omega) (by omega)]
    exact ⟨fun q => q.symm, fun q => q.symm⟩
  have l5 : A (13 + l) 5 ≤ A (13 + k) 5 ↔ u2 ≤ u1 := by rw [eu1, eu2]; exact nI_leI (by omega) (by omega)
  have l0 : A (13 + l) 0 ≤ A (13 + k) 0 ↔ nI (ι l) ≤ nI (ι k) := by
    rw [nI_leI (by omega) (by omega)]
    have h1 := hR.2.2.2.2.1.2.2 k l hk hl
    have h2 : A (13 + l) 0 ≤ A (13 + k) 0 ↔ ¬ A (13 + k) 0 < A (13 + l) 0 := (Int32.not_lt).symm
    rw [h2, ← h1]
    omega
  have key : (if 0 < v6 then true else (if ¬ v6 = 0 then false else (if 0 < v11 then true else (if ¬ v11 = 0 then false else (if nI (ι l) ≤ nI (ι k) then false else true))))) = bef (A (13 + k)) (A (13 + l)) := by
    unfold bef
    have tail : (A (13 + k) 6 != 0) = (A (13 + l) 6 != 0) → v6 = 0 → (if 0 < v6 then true else (if ¬ v6 = 0 then false else (if 0 < v11 then true else (if ¬ v11 = 0 then false else (if nI (ι l) ≤ nI (ι k) then false else true))))) = (if (A (13 + k) 6 != 0) = (A (13 + l) 6 != 0) then (if A (13 + k) 5 = A (13 + l) 5 then !decide (A (13 + l) 0 ≤ A (13 + k) 0) else !decide (A (13 + l) 5 ≤ A (13 + k) 5)) else (A (13 + k) 6 != 0)) := by
      intro q6 z6
      rw [if_pos q6, z6, if_neg (by decide), if_neg (by simp)]
      by_cases q : u2 = u1
      · rw [if_neg (fun z => absurd (sp.mp z) (by omega)), if_neg (fun z => z (s0.mpr q)), if_pos (e5.mpr q)]
        by_cases q0 : nI (ι l) ≤ nI (ι k)
        · rw [if_pos q0]; simp [l0.mpr q0]
        · rw [if_neg q0]
          have : ¬ A (13 + l) 0 ≤ A (13 + k) 0 := fun z => q0 (l0.mp z)
          simp only [this, decide_false, Bool.not_false]
      · rw [if_neg (fun z => q (e5.mp z))]
        by_cases q1 : u1 < u2
        · rw [if_pos (sp.mpr q1)]
          have : ¬ A (13 + l) 5 ≤ A (13 + k) 5 := fun z => absurd (l5.mp z) (by omega)
          simp [this]
        · rw [if_neg (fun z => q1 (sp.mp z)), if_pos (fun z => q (s0.mp z))]
          have : A (13 + l) 5 ≤ A (13 + k) 5 := l5.mpr (by omega)
          simp [this]
    rcases (hI.1.2.2 k hk).2.2 with a | a <;> rcases (hI.1.2.2 l hl).2.2 with b | b
    · exact tail (by rw [a, b]) (by rw [h6, a, b]; decide)
    · rw [h6, a, b, if_neg (by decide), if_pos (by decide), if_neg (by decide)]; decide
    · rw [h6, a, b, if_pos (by decide), if_neg (by decide)]; decide
    · exact tail (by rw [a, b]) (by rw [h6, a, b]; decide)
  rw [key]
  exact hp
theorem srt.bef {A : Ab} {c : Nat} (h : srt A c) {k l : Nat} (hk : k < c) (hl : l < c) (hne : k ≠ l) : bef (A (13 + k)) (A (13 + l)) = decide (k < l) := by
  by_cases e : k < l
  · rw [h k l e hl]; simp [e]
  · rw [bef_asymm (h l k (by omega) hk)]; simp [e]
theorem r_rankOf (hB : RB B) (hR : Rel A c m ι σ) (hI : iJ A c N) {k : Nat} (hk : k < c) {x : Int32} (hx : x = nI (ι k)) {P : Int32 → Mem → Prop} (hp : P (nI k) (sM B σ)) : wp_X7_rankOf 283 (sM B σ) 276 x P := by
  have hc := hI.1.2.1
  have c5 := hR.c5 hI.1
  have hb := hR.2.2.2.2.1.1
  have hik := hb.1 k hk
  subst hx
  -- which index is ahead
  obtain ⟨ρ, hρ⟩ : ∃ ρ : Nat → Nat, ∀ i, i < c → ρ i < c ∧ ι (ρ i) = i := by
    have : ∀ i, ∃ l, i < c → l < c ∧ ι l = i := fun i => by
      by_cases hi : i < c
      · obtain ⟨l, hl, e⟩ := hb.2.2 i hi
        exact ⟨l, fun _ => ⟨hl, e⟩⟩
      · exact ⟨0, fun h => absurd h hi⟩
    obtain ⟨ρ, hρ⟩ := Classical.axiomOfChoice this
    exact ⟨ρ, hρ⟩
  have tot : cntN (fun i => decide (ρ i < k)) c = k := cntN_bij hb k (by omega) _ (fun l hl => by
    have := hρ (ι l) (hb.1 l hl)
    rw [hb.2.1 _ _ this.1 hl this.2])
  refine ⟨c + 1, ?_⟩
  have L : ∀ f i, i + f = c → wpL_X7_rankOf_4 283 P (f + 1) (sM B σ) 276 (nI (ι k)) (nI (cntN (fun i => decide (ρ i < k)) i)) (nI i) := by
    intro f
    induction f with
    | zero =>
      intro i hi
      have : i = c := by omega
      subst this
      rw [tot]
      exact ⟨tp7, r_len5 hB (P := fun z => (z ≤ nI i → _) ∧ (¬ z ≤ nI i → _)) ⟨fun _ => hp, fun k => absurd (cGe c5 rfl (by omega) (by omega)) k⟩⟩
    | succ f ih =>
      intro i hi
      have hle := cntN_le (p := fun i => decide (ρ i < k)) (n := i)
      have hρi := hρ i (by omega)
      refine ⟨tp7, r_len5 hB (P := fun z => (z ≤ nI i → _) ∧ (¬ z ≤ nI i → _)) ⟨fun k => absurd k (cLt c5 rfl (by omega) (by omega)), fun _ => ⟨fun e v hv w hw => ?_, fun e => r_isAhead hB hR hI (k := ρ i) (l := k) hρi.1 hk (by rw [hρi.2]) rfl fun v hv w hw => ?_⟩⟩⟩
      · have e' : i = ι k := (nI_eq (by omega) (by omega)).mp e
        have : ρ i = k := hb.2.1 _ _ hρi.1 hk (hρi.2.trans e')
        rw [hv, hw, nI_1, Int32.add_zero]
        have := ih (i + 1) (by omega)
        unfold cntN at this
        rwa [if_neg (by simp [‹ρ i = k›]), Nat.add_zero] at this
      · have hne : ρ i ≠ k := fun q => e (by rw [← hρi.2, q])
        rw [hI.2.1.bef hρi.1 hk hne] at hv
        have := ih (i + 1) (by omega)
        unfold cntN at this
        rw [hv, hw, nI_1]
        by_cases q : ρ i < k
        · rw [if_pos (by simpa using q)] at this
          simp only [q, decide_true, Bool.true_eq_false, if_false]
          rw [← nI_1] at this
          exact this
        · rw [if_neg (by simpa using q), Nat.add_zero] at this
          simp only [q, decide_false, if_true]
          rw [show nI (cntN (fun i => decide (ρ i < k)) i) + bI false = nI (cntN (fun i => decide (ρ i < k)) i) from Int32.add_zero _]
          exact this
  exact L c 0 (by omega)
theorem r_jobAt (hB : RB B) (hR : Rel A c m ι σ) (hI : iJ A c N) {k : Nat} (hk : k < c) {x : Int32} (hx : x = nI k) {P : Int32 → Mem → Prop} (hp : P (nI (ι k)) (sM B σ)) : wp_X7_jobAt 283 (sM B σ) 276 x P := by
  have hc := hI.1.2.1
  have c5 := hR.c5 hI.1
  have hb := hR.2.2.2.2.1.1
  have hik := hb.1 k hk
  subst hx
  refine ⟨c + 1, ?_⟩
  have L : ∀ f i, i + f = c → i ≤ ι k → wpL_X7_jobAt_2 283 P (f + 1) (sM B σ) 276 (nI k) (nI i) := by
    intro f
    induction f with
    | zero => intro i hi h1; omega
    | succ f ih =>
      intro i hi h1
      obtain ⟨l, hl, el⟩ := hb.2.2 i (by omega)
      refine ⟨tp7, r_len5 hB (P := fun z => (z ≤ nI i → _) ∧ (¬ z ≤ nI i → _)) ⟨fun k => absurd k (cLt c5 rfl (by omega) (by omega)), fun _ => r_rankOf hB hR hI hl (by rw [el]) ⟨fun e v hv => ?_, fun e => ?_⟩⟩⟩
      · rw [hv, nI_1]
        refine ih (i + 1) (by omega) ?_
        rcases Nat.lt_or_ge i (ι k) with q | q
        · exact q
        · have : l = k := hb.2.1 l k hl hk (by omega)
          exact absurd (by rw [this]) e
      · have : l = k := (nI_eq (by omega) (by omega)).mp e
        rw [← el, this]
        exact hp
  exact L c 0 (by omega) (by omega)
end RLOOK
