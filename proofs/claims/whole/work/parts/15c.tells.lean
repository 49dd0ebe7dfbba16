/-! What the reference tells of the shop. -/
def sumN (F : Nat → Int32) : Nat → Int32
  | 0 => 0
  | n + 1 => sumN F n + F n
theorem sumN_congr {F G : Nat → Int32} : ∀ {n : Nat}, (∀ k, k < n → F k = G k) → sumN F n = sumN G n := by
  intro n
  induction n with
  | zero => intro _; rfl
  | succ n ih =>
    intro h
    unfold sumN
    rw [ih (fun k hk => h k (by omega)), h n (by omega)]
theorem sumN_zero {F : Nat → Int32} {n : Nat} (h : ∀ k, k < n → F k = 0) : sumN F n = 0 := by
  induction n with
  | zero => rfl
  | succ n ih =>
    unfold sumN
    rw [ih (fun k hk => h k (by omega)), h n (by omega)]; rfl
theorem sumN_add {F G : Nat → Int32} {n : Nat} : sumN (fun k => F k + G k) n = sumN F n + sumN G n := by
  induction n with
  | zero => rfl
  | succ n ih =>
    unfold sumN
    rw [ih, Int32.add_assoc, Int32.add_assoc]
    congr 1
    rw [← Int32.add_assoc, ← Int32.add_assoc, Int32.add_comm (F n)]
theorem sumN_swap {H : Nat → Nat → Int32} {m n : Nat} : sumN (fun k => sumN (fun i => H k i) m) n = sumN (fun i => sumN (fun k => H k i) n) m := by
  induction n with
  | zero => exact (sumN_zero fun _ _ => rfl).symm
  | succ n ih =>
    show sumN (fun k => sumN (fun i => H k i) m) n + sumN (fun i => H n i) m = sumN (fun i => sumN (fun k => H k i) n + H n i) m
    rw [ih, sumN_add]
theorem sumN_single {F : Nat → Int32} {n a : Nat} (ha : a < n) (h : ∀ k, k < n → k ≠ a → F k = 0) : sumN F n = F a := by
  induction n with
  | zero => omega
  | succ n ih =>
    unfold sumN
    by_cases e : a = n
    · subst e
      rw [sumN_zero (fun k hk => h k (by omega) (by omega)), Int32.zero_add]
    · rw [ih (by omega) (fun k hk hne => h k (by omega) hne), h n (by omega) (fun z => e z.symm), Int32.add_zero]
def perN (F : Nat → Int32) (ι : Nat → Nat) (c i : Nat) : Int32 := sumN (fun k => if ι k = i then F k else 0) c
theorem perN_at {F : Nat → Int32} {ι : Nat → Nat} {c k : Nat} (hb : bij c ι) (hk : k < c) : perN F ι c (ι k) = F k := by
  unfold perN
  rw [sumN_single hk (fun j hj hne => if_neg fun z => hne (hb.2.1 j k hj hk z)), if_pos rfl]
theorem perN_sum {F : Nat → Int32} {ι : Nat → Nat} {c : Nat} (hb : bij c ι) : sumN (perN F ι c) c = sumN F c := by
  unfold perN
  rw [← sumN_swap (H := fun k i => if ι k = i then F k else 0)]
  refine sumN_congr fun k hk => ?_
  rw [sumN_single (hb.1 k hk) (fun i _ hne => if_neg fun z => hne z.symm), if_pos rfl]
theorem foldN_sum {F : Nat → Int32} {g : Nat → Int32 → Int32} (hg : ∀ k a, g k a = a + F k) : ∀ f i, foldN g f i (sumN F i) = sumN F (i + f) := by
  intro f
  induction f with
  | zero => intro i; rfl
  | succ f ih =>
    intro i
    unfold foldN
    rw [hg, show i + (f + 1) = (i + 1) + f by omega]
    exact ih (i + 1)
theorem lackOfA_sum {A : Ab} {c : Nat} {x : Int32} : lackOfA A c x = sumN (fun k => if A (13 + k) 2 = x then lackA A k else 0) c := by
  have := foldN_sum (F := fun k => if A (13 + k) 2 = x then lackA A k else 0) (g := fun k a => if A (13 + k) 2 = x then a + lackA A k else a) (fun k a => by
    show (if A (13 + k) 2 = x then a + lackA A k else a) = a + (if A (13 + k) 2 = x then lackA A k else 0)
    split
    · rfl
    · rw [Int32.add_zero]) c 0
  rw [Nat.zero_add] at this
  exact this
theorem bilOfA_sum {A : Ab} {c : Nat} {x : Int32} : bilOfA A c x = sumN (fun k => if A (13 + k) 2 = x then A (13 + k) 7 else 0) c := by
  have := foldN_sum (F := fun k => if A (13 + k) 2 = x then A (13 + k) 7 else 0) (g := fun k a => if A (13 + k) 2 = x then a + A (13 + k) 7 else a) (fun k a => by
    show (if A (13 + k) 2 = x then a + A (13 + k) 7 else a) = a + (if A (13 + k) 2 = x then A (13 + k) 7 else 0)
    split
    · rfl
    · rw [Int32.add_zero]) c 0
  rw [Nat.zero_add] at this
  exact this
theorem rushA_sum {A : Ab} {c : Nat} : rushA A c = sumN (fun k => if A (13 + k) 6 != 0 then 1 else 0) c := by
  have := foldN_sum (F := fun k => if A (13 + k) 6 != 0 then (1 : Int32) else 0) (g := fun k a => if A (13 + k) 6 != 0 then a + 1 else a) (fun k a => by
    show (if A (13 + k) 6 != 0 then a + 1 else a) = a + (if A (13 + k) 6 != 0 then (1 : Int32) else 0)
    split
    · rfl
    · rw [Int32.add_zero]) c 0
  rw [Nat.zero_add] at this
  exact this
theorem furnA_sum {A : Ab} : furnA A = sumN (fun p => if A (24 + p) 0 = -1 then 0 else 1) 6 := by
  have := foldN_sum (F := fun p => if A (24 + p) 0 = -1 then (0 : Int32) else 1) (g := fun p a => if A (24 + p) 0 = -1 then a else a + 1) (fun p a => by
    show (if A (24 + p) 0 = -1 then a else a + 1) = a + (if A (24 + p) 0 = -1 then (0 : Int32) else 1)
    split
    · rw [Int32.add_zero]
    · rfl) 6 0
  rw [Nat.zero_add] at this
  exact this
theorem cntN_or {p q : Nat → Bool} : ∀ {n : Nat}, (∀ x, x < n → ¬ (p x = true ∧ q x = true)) → cntN (fun x => p x || q x) n = cntN p n + cntN q n := by
  intro n
  induction n with
  | zero => intro _; rfl
  | succ n ih =>
    intro h
    unfold cntN
    rw [ih (fun x hx => h x (by omega))]
    have := h n (by omega)
    cases hp : p n <;> cases hq : q n <;> simp [hp, hq] at this ⊢ <;> omega
theorem cntN_none {p : Nat → Bool} {n : Nat} (h : ∀ x, x < n → p x = false) : cntN p n = 0 := by
  induction n with
  | zero => rfl
  | succ n ih =>
    unfold cntN
    rw [ih (fun x hx => h x (by omega)), h n (by omega)]; rfl
def anyB (q : Nat → Bool) : Nat → Bool
  | 0 => false
  | n + 1 => anyB q n || q n
theorem anyB_iff {q : Nat → Bool} {n : Nat} : anyB q n = true ↔ ∃ k, k < n ∧ q k = true := by
  induction n with
  | zero =>
    constructor
    · intro h; cases h
    · rintro ⟨k, hk, _⟩; omega
  | succ n ih =>
    unfold anyB
    rw [Bool.or_eq_true, ih]
    constructor
    · rintro (⟨k, hk, h⟩ | h)
      · exact ⟨k, by omega, h⟩
      · exact ⟨n, by omega, h⟩
    · rintro ⟨k, hk, h⟩
      by_cases e : k = n
      · subst e; exact Or.inr h
      · exact Or.inl ⟨k, by omega, h⟩
def heatB (A : Ab) (c : Nat) (x : Int32) (p : Nat) : Bool := match plB A c p with
  | none => false
  | some k => decide (A (13 + k) 2 = x)
section TEL
variable {B : Mem} {σ σ' : Nat → Int32} {A A' : Ab} {c N T : Nat} {m : Int32} {ι : Nat → Nat}
theorem bilOfA_cnt (hI : iJ A c N) (hC : iC A c) {x : Int32} : bilOfA A c x = nI (cntN (heatB A c x) 7) := by
  rw [bilOfA_sum]
  have L : ∀ j, j ≤ c → sumN (fun k => if A (13 + k) 2 = x then A (13 + k) 7 else 0) j = nI (cntN (fun p => anyB (fun k => decide (A (24 + p) 0 = A (13 + k) 0) && decide (A (13 + k) 2 = x)) j) 7) := by
    intro j
    induction j with
    | zero =>
      intro _
      have : cntN (fun p => anyB (fun k => decide (A (24 + p) 0 = A (13 + k) 0) && decide (A (13 + k) 2 = x)) 0) 7 = 0 := cntN_none (fun _ _ => rfl)
      rw [this]; rfl
    | succ j ih =>
      intro hj
      show sumN _ j + (if A (13 + j) 2 = x then A (13 + j) 7 else 0) = _
      rw [ih (by omega)]
      have := cntN_or (n := 7) (p := fun p => anyB (fun k => decide (A (24 + p) 0 = A (13 + k) 0) && decide (A (13 + k) 2 = x)) j) (q := fun p => decide (A (24 + p) 0 = A (13 + j) 0) && decide (A (13 + j) 2 = x)) (fun p hp z => by
        obtain ⟨z1, z2⟩ := z
        obtain ⟨k, hk, z3⟩ := anyB_iff.mp z1
        simp only [Bool.and_eq_true, decide_eq_true_eq] at z2 z3
        have := hI.inj (k := k) (l := j) (by omega) (by omega) (z3.1.symm.trans z2.1)
        omega)
      show _ = nI (cntN (fun p => anyB (fun k => decide (A (24 + p) 0 = A (13 + k) 0) && decide (A (13 + k) 2 = x)) j || (decide (A (24 + p) 0 = A (13 + j) 0) && decide (A (13 + j) 2 = x))) 7)
      rw [this, ← nI_add]
      congr 1
      by_cases q : A (13 + j) 2 = x
      · rw [if_pos q, hC j (by omega)]
        congr 1
        exact cntN_congr fun p hp => by simp [q]
      · rw [if_neg q, cntN_none (fun p hp => by simp [q])]; rfl
  rw [L c (Nat.le_refl c)]
  congr 1
  refine cntN_congr fun p hp => ?_
  show anyB _ c = heatB A c x p
  unfold heatB
  cases q : plB A c p with
  | none =>
    cases q2 : anyB (fun k => decide (A (24 + p) 0 = A (13 + k) 0) && decide (A (13 + k) 2 = x)) c with
    | false => rfl
    | true =>
      obtain ⟨k, hk, z⟩ := anyB_iff.mp q2
      simp only [Bool.and_eq_true, decide_eq_true_eq] at z
      have := (plB_iff hI hk).mpr z.1
      rw [q] at this; cases this
  | some k =>
    have hk := plB_lt q
    have ek := (plB_iff hI hk).mp q
    show anyB _ c = decide (A (13 + k) 2 = x)
    by_cases z : A (13 + k) 2 = x
    · rw [decide_eq_true z]
      exact anyB_iff.mpr ⟨k, hk, by simp [ek, z]⟩
    · rw [decide_eq_false z]
      cases q2 : anyB (fun k => decide (A (24 + p) 0 = A (13 + k) 0) && decide (A (13 + k) 2 = x)) c with
      | false => rfl
      | true =>
        obtain ⟨l, hl, y⟩ := anyB_iff.mp q2
        simp only [Bool.and_eq_true, decide_eq_true_eq] at y
        have := hI.inj hk hl (ek.symm.trans y.1)
        subst this
        exact absurd y.2 z
theorem r_billetsWith (hB : RB B) (hR : Rel A c m ι σ) (hI : iJ A c N) (hC : iC A c) {x : Int32} {P : Int32 → Mem → Prop} (hp : P (bilOfA A c x) (sM B σ)) : wp_X7_billetsWith 283 (sM B σ) 276 x P := by
  rw [bilOfA_cnt hI hC] at hp
  have hc := hI.1.2.1
  refine ⟨8, ?_⟩
  have L : ∀ f i, i + f = 7 → wpL_X7_billetsWith_4 283 P (f + 1) (sM B σ) 276 x (nI (cntN (heatB A c x) i)) (nI i) := by
    intro f
    induction f with
    | zero =>
      intro i hi
      have : i = 7 := by omega
      subst this
      exact ⟨fun _ => hp, fun q => absurd (cGt (x := 6) (n := 6) (i := 7) rfl rfl (by omega) (by omega)) q⟩
    | succ f ih =>
      intro i hi
      have key := ih (i + 1) (by omega)
      have e : cntN (heatB A c x) (i + 1) = cntN (heatB A c x) i + (if heatB A c x i = true then 1 else 0) := rfl
      rw [e] at key
      refine ⟨fun q => absurd q (cNgt (x := 6) (n := 6) rfl rfl (by omega) (by omega)), fun _ => ⟨tp7, r_jobOn hB hR hI (p := i) (by omega) rfl ⟨fun z v4 h4 v5 h5 => ?_, fun z => r_jobOn hB hR hI (p := i) (by omega) rfl ?_⟩⟩⟩
      · have : plB A c i = none := by
          cases q : plB A c i with
          | none => rfl
          | some k =>
            rw [q] at z
            exact absurd z (nI_n1 (by have := hR.2.2.2.2.1.1.1 k (plB_lt q); omega))
        rw [h4, h5, nI_1, Int32.add_zero]
        have e2 : heatB A c x i = false := by unfold heatB; rw [this]
        rw [e2] at key
        exact key
      · cases q : plB A c i with
        | none => rw [q] at z; exact absurd rfl z
        | some k =>
          have hk := plB_lt q
          have hik := hR.2.2.2.2.1.1.1 k hk
          refine r_job0 hB (k := ι k) (f := 2) (by omega) (by omega) rfl rfl fun v10 h10 v11 h11 => ?_
          rw [hR.job hk (by omega)] at h10
          have e2 : heatB A c x i = decide (A (13 + k) 2 = x) := by unfold heatB; rw [q]
          rw [e2] at key
          rw [h10, h11, nI_1]
          by_cases y : A (13 + k) 2 = x
          · rw [if_pos (by simpa using y), ← nI_1] at key
            rw [if_neg (fun w => w y)]
            exact key
          · rw [if_neg (by simpa using y), Nat.add_zero] at key
            rw [if_pos y, show bI false = 0 from rfl, Int32.add_zero]
            exact key
  exact L 7 0 (by omega)
theorem r_lackedWith (hB : RB B) (hR : Rel A c m ι σ) (hI : iJ A c N) (hC : iC A c) {x : Int32} {P : Int32 → Mem → Prop} (hp : P (lackOfA A c x) (sM B σ)) : wp_X7_lackedWith 283 (sM B σ) 276 x P := by
  have hb := hR.2.2.2.2.1.1
  have hc := hI.1.2.1
  rw [lackOfA_sum, ← perN_sum hb] at hp
  refine ⟨c + 1, ?_⟩
  have L : ∀ f i, i + f = c → wpL_X7_lackedWith_4 283 P (f + 1) (sM B σ) 276 x (sumN (perN (fun k => if A (13 + k) 2 = x then lackA A k else 0) ι c) i) (nI i) := by
    intro f
    induction f with
    | zero =>
      intro i hi
      have : i = c := by omega
      subst this
      refine ⟨tp7, r_len5 hB (P := fun w => (w ≤ nI i → _) ∧ (¬ w ≤ nI i → _)) ⟨fun _ => hp, fun q => absurd (cGe (hR.c5 hI.1) rfl (by omega) (by omega)) q⟩⟩
    | succ f ih =>
      intro i hi
      obtain ⟨k, hk, ek⟩ := hb.2.2 i (by omega)
      subst ek
      have := ih (ι k + 1) (by omega)
      have e : sumN (perN (fun k => if A (13 + k) 2 = x then lackA A k else 0) ι c) (ι k + 1) = sumN (perN (fun k => if A (13 + k) 2 = x then lackA A k else 0) ι c) (ι k) + (if A (13 + k) 2 = x then lackA A k else 0) := by
        show _ + perN _ ι c (ι k) = _
        rw [perN_at hb hk]
      rw [e] at this
      refine ⟨tp7, r_len5 hB (P := fun w => (w ≤ nI (ι k) → _) ∧ (¬ w ≤ nI (ι k) → _)) ⟨fun q => absurd q (cLt (hR.c5 hI.1) rfl (by omega) (by omega)), fun _ => r_job0 hB (k := ι k) (f := 2) (by omega) (by omega) rfl rfl ⟨fun z v7 h7 v8 h8 => ?_, fun z => r_lacks hB hR hI hC hk rfl fun v11 h11 v12 h12 => ?_⟩⟩⟩
      · rw [hR.job hk (by omega)] at z
        rw [if_neg z] at this
        rw [h7, h8, nI_1]; exact this
      · rw [hR.job hk (by omega)] at z
        rw [if_pos z] at this
        rw [h11, h12, nI_1]; exact this
  exact L c 0 (by omega)
theorem r_rushJobs (hB : RB B) (hR : Rel A c m ι σ) (hI : iJ A c N) {P : Int32 → Mem → Prop} (hp : P (rushA A c) (sM B σ)) : wp_X7_rushJobs 283 (sM B σ) 276 P := by
  have hb := hR.2.2.2.2.1.1
  have hc := hI.1.2.1
  rw [rushA_sum, sumN_congr (G := fun k => A (13 + k) 6) (fun k hk => by
    rcases (hI.1.2.2 k hk).2.2 with q | q <;> simp [q]), ← perN_sum hb] at hp
  refine ⟨c + 1, ?_⟩
  have L : ∀ f i, i + f = c → wpL_X7_rushJobs_4 283 P (f + 1) (sM B σ) 276 (sumN (perN (fun k => A (13 + k) 6) ι c) i) (nI i) := by
    intro f
    induction f with
    | zero =>
      intro i hi
      have : i = c := by omega
      subst this
      refine ⟨tp7, r_len5 hB (P := fun w => (w ≤ nI i → _) ∧ (¬ w ≤ nI i → _)) ⟨fun _ => hp, fun q => absurd (cGe (hR.c5 hI.1) rfl (by omega) (by omega)) q⟩⟩
    | succ f ih =>
      intro i hi
      obtain ⟨k, hk, ek⟩ := hb.2.2 i (by omega)
      subst ek
      have := ih (ι k + 1) (by omega)
      have e : sumN (perN (fun k => A (13 + k) 6) ι c) (ι k + 1) = sumN (perN (fun k => A (13 + k) 6) ι c) (ι k) + A (13 + k) 6 := by
        show _ + perN _ ι c (ι k) = _
        rw [perN_at hb hk]
      rw [e] at this
      refine ⟨tp7, r_len5 hB (P := fun w => (w ≤ nI (ι k) → _) ∧ (¬ w ≤ nI (ι k) → _)) ⟨fun q => absurd q (cLt (hR.c5 hI.1) rfl (by omega) (by omega)), fun _ => r_job0 hB (k := ι k) (f := 6) (by omega) (by omega) rfl rfl fun v7 h7 v8 h8 => ?_⟩⟩
      rw [hR.job hk (by omega)] at h7
      rw [h7, h8, nI_1]; exact this
  exact L c 0 (by omega)
theorem r_inFurnace (hB : RB B) (hR : Rel A c m ι σ) (hI : iJ A c N) (hBl : iB A c) {P : Int32 → Mem → Prop} (hp : P (furnA A) (sM B σ)) : wp_X7_inFurnace 283 (sM B σ) 276 P := by
  rw [furnA_sum] at hp
  refine ⟨7, ?_⟩
  have L : ∀ f i, i + f = 6 → wpL_X7_inFurnace_4 283 P (f + 1) (sM B σ) 276 (sumN (fun p => if A (24 + p) 0 = -1 then 0 else 1) i) (nI i) := by
    intro f
    induction f with
    | zero =>
      intro i hi
      have : i = 6 := by omega
      subst this
      exact ⟨fun _ => hp, fun q => absurd (cGe (x := 6) (n := 6) rfl rfl (by omega) (by omega)) q⟩
    | succ f ih =>
      intro i hi
      have := ih (i + 1) (by omega)
      have e : sumN (fun p => if A (24 + p) 0 = -1 then (0 : Int32) else 1) (i + 1) = sumN (fun p => if A (24 + p) 0 = -1 then 0 else 1) i + (if A (24 + i) 0 = -1 then 0 else 1) := rfl
      rw [e] at this
      refine ⟨fun q => absurd q (cLt (x := 6) (n := 6) rfl rfl (by omega) (by omega)), fun _ => ⟨tp7, r_billet0 hB (p := i) (f := 0) (by omega) (by omega) rfl rfl fun v4 h4 v5 h5 => ?_⟩⟩
      have e0 := (hR.2.2.2.2.2 i (by omega)).1
      rw [show 130 + 4 * i + 0 = 130 + 4 * i from rfl, e0] at h4
      rw [h4, h5, nI_1]
      rcases hBl.1 i (by omega) with y | ⟨⟨k, hk, y⟩, -⟩
      · rw [if_pos y] at this
        rw [y]; exact this
      · obtain ⟨n, en, hn⟩ := hI.2.2.1 k hk
        have hN := hI.2.2.2.2.1
        rw [if_neg (by rw [y]; exact hI.num hk)] at this
        rw [y, en, nI_1, if_neg (by
          rw [show (0 : Int32) = nI 0 from rfl, nI_leI (by omega) (by omega)]; omega)]
        exact this
  exact L 6 0 (by omega)
end TEL
