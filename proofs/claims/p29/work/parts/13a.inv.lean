/-! What is kept of a shop's value, over a minute. -/
def bcF (b : Nat → Int32) (x : Int32) : Nat := cntN (fun p => decide (b p = x)) 7
def bc (A : Ab) (k : Nat) : Nat := bcF (fun p => A (24 + p) 0) (A (13 + k) 0)
def iL (A : Ab) (c : Nat) : Prop := ∀ k, k < c → ∃ p m, A (13 + k) 3 = nI p ∧ A (13 + k) 4 = nI m ∧ p ≤ 40 ∧ m + bc A k ≤ p
def Iv (A : Ab) (c N T : Nat) : Prop := iJ A c N ∧ iC A c ∧ iL A c ∧ iB A c ∧ iD A ∧ iS A ∧ iH A T
theorem cntN_chg {p q : Nat → Bool} {x : Nat} : ∀ {n : Nat}, x < n → (∀ j, j < n → j ≠ x → q j = p j) → cntN q n + (if p x = true then 1 else 0) = cntN p n + (if q x = true then 1 else 0) := by
  intro n
  induction n with
  | zero => intro h; omega
  | succ n ih =>
    intro hx h
    unfold cntN
    by_cases e : x = n
    · subst e
      rw [cntN_congr (p := q) (q := p) (fun j hj => h j (by omega) (by omega))]
      omega
    · have := ih (by omega) (fun j hj hne => h j (by omega) hne)
      rw [h n (by omega) (fun q => e q.symm)]
      omega
theorem bcF_set {b b' : Nat → Int32} {x : Int32} {p : Nat} (hp : p < 7) (h : ∀ j, j < 7 → j ≠ p → b' j = b j) : bcF b' x + (if b p = x then 1 else 0) = bcF b x + (if b' p = x then 1 else 0) := by
  have := cntN_chg (p := fun p => decide (b p = x)) (q := fun p => decide (b' p = x)) hp (fun j hj hne => by rw [h j hj hne])
  simpa [bcF] using this
theorem bcF_le {b : Nat → Int32} {x : Int32} : bcF b x ≤ 7 := cntN_le
section INV
variable {A A' : Ab} {c N T : Nat}
theorem iC.bc (h : iC A c) {k : Nat} (hk : k < c) : A (13 + k) 7 = nI (bc A k) := h k hk
theorem bc_congr {k : Nat} (hB : ∀ p, p < 7 → A' (24 + p) 0 = A (24 + p) 0) (h0 : A' (13 + k) 0 = A (13 + k) 0) : bc A' k = bc A k := by
  unfold bc bcF
  rw [h0]
  exact cntN_congr fun j hj => by
    show decide (A' (24 + j) 0 = _) = decide (A (24 + j) 0 = _)
    rw [hB j hj]
/-- what no part of the picture speaks of may change -/
theorem Iv.congr (h : Iv A c N T) (h0 : ∀ f, f < 11 → A' 0 f = A 0 f) (hH : ∀ i, i < 4 → A' (2 + i) 0 = A (2 + i) 0 ∧ A' (2 + i) 3 = A (2 + i) 3 ∧ A' (2 + i) 4 = A (2 + i) 4) (hD : ∀ d, d < 5 → A' (7 + d) 0 = A (7 + d) 0 ∧ A' (7 + d) 1 = A (7 + d) 1 ∧ A' (7 + d) 3 = A (7 + d) 3) (hJ : ∀ k, k < c → ∀ f, f < 8 → A' (13 + k) f = A (13 + k) f) (hB : ∀ p, p < 7 → A' (24 + p) 0 = A (24 + p) 0 ∧ A' (24 + p) 1 = A (24 + p) 1 ∧ A' (24 + p) 3 = A (24 + p) 3) : Iv A' c N T := by
  obtain ⟨j, e, l, b, d, s, t⟩ := h
  refine ⟨j.congr (fun f hf => h0 f (by omega)) (fun k hk f hf => hJ k hk f (by omega)), fun k hk => ?_, fun k hk => ?_, ⟨fun p hp => ?_, fun p hp => ?_⟩, ⟨fun i hi => ?_, fun i i' hi hi' h1 h2 => ?_⟩, ?_, fun i hi => ?_⟩
  · rw [hJ k hk 7 (by omega)]
    have := bc_congr (k := k) (fun p hp => (hB p hp).1) (hJ k hk 0 (by omega))
    exact (e.bc hk).trans (by rw [← this]; rfl)
  · obtain ⟨p, m, e1, e2, e3, e4⟩ := l k hk
    exact ⟨p, m, (hJ k hk 3 (by omega)).trans e1, (hJ k hk 4 (by omega)).trans e2, e3, by rw [bc_congr (fun p hp => (hB p hp).1) (hJ k hk 0 (by omega))]; exact e4⟩
  · rw [(hB p hp).1, (hB p hp).2.2]
    rcases b.1 p hp with q | ⟨⟨k, hk, q⟩, z⟩
    · exact Or.inl q
    · exact Or.inr ⟨⟨k, hk, by rw [hJ k hk 0 (by omega)]; exact q⟩, z⟩
  · rw [(hB p hp).2.1]; exact b.2 p hp
  · obtain ⟨b1, l1, g1, x⟩ := d.1 i hi
    rw [(hD i hi).1, (hD i hi).2.1, (hD i hi).2.2]
    exact ⟨b1, l1, g1, x⟩
  · rw [(hD i hi).2.2] at h1
    rw [(hD i' hi').2.2] at h2
    exact d.2 i i' hi hi' h1 h2
  · unfold iS
    rw [h0 7 (by omega), h0 8 (by omega), h0 9 (by omega), h0 10 (by omega)]
    exact s
  · rw [(hH i hi).1, (hH i hi).2.1, (hH i hi).2.2]
    exact t i hi
theorem Iv.mono (h : Iv A c N T) {T' : Nat} (hT : T ≤ T') : Iv A c N T' := ⟨h.1, h.2.1, h.2.2.1, h.2.2.2.1, h.2.2.2.2.1, h.2.2.2.2.2.1, fun i hi => by
  obtain ⟨s, a, b, e1, e2, e3, e4, e5, e6⟩ := h.2.2.2.2.2.2 i hi
  exact ⟨s, a, b, e1, e2, e3, by omega, e5, by omega⟩⟩
theorem Iv.tick (h : Iv A c N T) : Iv (aTick A) c N T := h.congr (fun f hf => up_f (by omega)) (fun i hi => ⟨up_r (by omega), up_r (by omega), up_r (by omega)⟩) (fun i hi => ⟨up_r (by omega), up_r (by omega), up_r (by omega)⟩) (fun k hk f hf => up_r (by omega)) (fun i hi => ⟨up_r (by omega), up_r (by omega), up_r (by omega)⟩)
theorem Iv.warm (h : Iv A c N T) : Iv (aWarm A 6) c N T := by
  have hc := h.1.1.2.1
  obtain ⟨j, e, l, b, d, s, t⟩ := h
  have o : ∀ r f, ¬ (24 ≤ r ∧ r < 30 ∧ f = 1) → aWarm A 6 r f = A r f := fun r f hr => aWarm_o (by omega)
  refine ⟨j.congr (fun f hf => o _ _ (by omega)) (fun k hk f hf => o _ _ (by omega)), fun k hk => ?_, fun k hk => ?_, ⟨fun p hp => ?_, fun p hp => ?_⟩, ⟨fun i hi => ?_, fun i i' hi hi' h1 h2 => ?_⟩, ?_, fun i hi => ?_⟩
  · rw [o _ _ (by omega)]
    have := bc_congr (A' := aWarm A 6) (A := A) (k := k) (fun p hp => o _ _ (by omega)) (o _ _ (by omega))
    exact (e.bc hk).trans (by rw [← this]; rfl)
  · obtain ⟨p, m, e1, e2, e3, e4⟩ := l k hk
    exact ⟨p, m, (o _ _ (by omega)).trans e1, (o _ _ (by omega)).trans e2, e3, by rw [bc_congr (A := A) (fun p hp => o _ _ (by omega)) (o _ _ (by omega))]; exact e4⟩
  · rw [o _ _ (by omega), o _ _ (by omega)]
    rcases b.1 p hp with q | ⟨⟨k, hk, q⟩, z⟩
    · exact Or.inl q
    · exact Or.inr ⟨⟨k, hk, by rw [o _ _ (by omega)]; exact q⟩, z⟩
  · obtain ⟨t0, et, ht⟩ := b.2 p hp
    obtain ⟨w, x, r, g, ew, hw, -⟩ := s
    unfold aWarm
    split
    · unfold warmV
      rw [et, ew, nI_add]
      have := nI_ltI (a := t0 + w) (b := 1250) (by omega) (by omega)
      by_cases q : nI (t0 + w) < 1250
      · rw [if_pos q]
        exact ⟨t0 + w, rfl, by have := this.mp q; omega⟩
      · rw [if_neg q]
        exact ⟨1250, rfl, Nat.le_refl _⟩
    · exact ⟨t0, et, ht⟩
  · obtain ⟨b1, l1, g1, x⟩ := d.1 i hi
    rw [o _ _ (by omega), o _ _ (by omega), o _ _ (by omega)]
    exact ⟨b1, l1, g1, x⟩
  · rw [o _ _ (by omega)] at h1 h2
    exact d.2 i i' hi hi' h1 h2
  · unfold iS
    rw [o _ _ (by omega), o _ _ (by omega), o _ _ (by omega), o _ _ (by omega)]
    exact s
  · rw [o _ _ (by omega), o _ _ (by omega), o _ _ (by omega)]
    exact t i hi
theorem iJ.inj (h : iJ A c N) {k l : Nat} (hk : k < c) (hl : l < c) (e : A (13 + k) 0 = A (13 + l) 0) : k = l := h.2.2.2.2.2.1 k l hk hl e
theorem Iv.charge (h : Iv A c N T) : Iv (aCharge A c) c N T := by
  have hc := h.1.1.2.1
  unfold aCharge
  cases q : freeA A with
  | none => exact h
  | some p =>
    obtain ⟨-, hp6, efree, -⟩ := fst9_some q
    simp only [decide_eq_true_eq] at efree
    have hp6 : p < 6 := by omega
    show Iv (match fst9 (canCh A) c 0 with | none => A | some k => chargeAt A k p) c N T
    cases q2 : fst9 (canCh A) c 0 with
    | none => exact h
    | some k =>
      obtain ⟨-, hk, ecan, -⟩ := fst9_some q2
      have hk : k < c := by omega
      obtain ⟨j, e, l, b, d, s, t⟩ := h
      obtain ⟨hst, hlk⟩ := canCh_ref.mp ecan
      have hh := j.1.h hk
      have hd := j.1.d hk
      show Iv (chargeAt A k p) c N T
      have o : ∀ r f, r ≠ 24 + p → ¬ (r = 2 + hj A k ∧ f = 0) → ¬ (r = 13 + k ∧ f = 7) → chargeAt A k p r f = A r f := fun r f h1 h2 h3 => by
        unfold chargeAt
        rw [up_r h1, up_r h1, up_r h1, up_r h1, up_o h3, up_o h2]
      have c0 : chargeAt A k p (24 + p) 0 = A (13 + k) 0 := by unfold chargeAt; rw [up_f (by omega), up_f (by omega), up_f (by omega), up_s]
      have c1 : chargeAt A k p (24 + p) 1 = 20 := by unfold chargeAt; rw [up_f (by omega), up_f (by omega), up_s]
      have c3 : chargeAt A k p (24 + p) 3 = A (7 + dj A k) 0 := by unfold chargeAt; rw [up_s]
      have c7 : chargeAt A k p (13 + k) 7 = A (13 + k) 7 + 1 := by unfold chargeAt; rw [up_r (by omega), up_r (by omega), up_r (by omega), up_r (by omega), up_s]
      have cs : chargeAt A k p (2 + hj A k) 0 = A (2 + hj A k) 0 - 1 := by unfold chargeAt; rw [up_r (by omega), up_r (by omega), up_r (by omega), up_r (by omega), up_r (by omega), up_s]
      have num : ∀ i, i < c → chargeAt A k p (13 + i) 0 = A (13 + i) 0 := fun i hi => o _ _ (by omega) (by omega) (by omega)
      have cb : ∀ i, i < c → bc (chargeAt A k p) i = bc A i + (if i = k then 1 else 0) := fun i hi => by
        have := bcF_set (b := fun p => A (24 + p) 0) (b' := fun q => chargeAt A k p (24 + q) 0) (x := A (13 + i) 0) (p := p) (by omega) (fun z hz hne => o _ _ (by omega) (by omega) (by omega))
        unfold bc
        rw [num i hi]
        simp only [c0, efree] at this
        rw [if_neg (fun z => j.num hi z.symm)] at this
        by_cases z : i = k
        · subst z; simpa using this
        · rw [if_neg (fun y => z (j.inj hi hk y.symm))] at this
          rw [if_neg z]; simpa using this
      have bcle : bc A k ≤ 7 := bcF_le
      refine ⟨j.congr (fun f hf => o _ _ (by omega) (by omega) (by omega)) (fun i hi f hf => o _ _ (by omega) (by omega) (by omega)), fun i hi => ?_, fun i hi => ?_, ⟨fun r hr => ?_, fun r hr => ?_⟩, ⟨fun i hi => ?_, fun i i' hi hi' h1 h2 => ?_⟩, ?_, fun i hi => ?_⟩
      · show chargeAt A k p (13 + i) 7 = nI (bc (chargeAt A k p) i)
        rw [cb i hi]
        by_cases z : i = k
        · subst z
          rw [c7, e.bc hi, nI_1, if_pos rfl]
        · rw [o _ _ (by omega) (by omega) (by omega), e.bc hi, if_neg z]; rfl
      · obtain ⟨pp, m, e1, e2, e3, e4⟩ := l i hi
        refine ⟨pp, m, (o _ _ (by omega) (by omega) (by omega)).trans e1, (o _ _ (by omega) (by omega) (by omega)).trans e2, e3, ?_⟩
        rw [cb i hi]
        by_cases z : i = k
        · subst z
          rw [if_pos rfl]
          rcases Nat.lt_or_ge (m + bc A i) pp with y | y
          · omega
          · exfalso
            apply hlk
            unfold lackA
            rw [e1, e2, e.bc hi]
            have h1 : nI pp - nI m = nI (pp - m) := by
              rw [← Int32.toInt_inj, nI_sub_toInt (by omega) (by omega), nI_toInt (by omega)]; omega
            have h2 : nI (pp - m) - nI (bc A i) = nI 0 := by
              rw [← Int32.toInt_inj, nI_sub_toInt (by omega) (by omega), nI_toInt (by omega)]; omega
            rw [h1, h2]; decide
        · rw [if_neg z]; exact e4
      · by_cases z : r = p
        · subst z
          rw [c0, c3]
          obtain ⟨b1, l1, g1, x1, x2, x3, -⟩ := d.1 _ hd.1
          exact Or.inr ⟨⟨k, hk, (num k hk).symm⟩, b1, x1, x2, x3⟩
        · rw [o _ _ (by omega) (by omega) (by omega), o _ _ (by omega) (by omega) (by omega)]
          rcases b.1 r hr with y | ⟨⟨i, hi, y⟩, w⟩
          · exact Or.inl y
          · exact Or.inr ⟨⟨i, hi, by rw [num i hi]; exact y⟩, w⟩
      · by_cases z : r = p
        · subst z
          rw [c1]; exact ⟨20, rfl, by omega⟩
        · rw [o _ _ (by omega) (by omega) (by omega)]; exact b.2 r hr
      · obtain ⟨b1, l1, g1, x⟩ := d.1 i hi
        rw [o _ _ (by omega) (by omega) (by omega), o _ _ (by omega) (by omega) (by omega), o _ _ (by omega) (by omega) (by omega)]
        exact ⟨b1, l1, g1, x⟩
      · rw [o _ _ (by omega) (by omega) (by omega)] at h1 h2
        exact d.2 i i' hi hi' h1 h2
      · unfold iS
        rw [o _ _ (by omega) (by omega) (by omega), o _ _ (by omega) (by omega) (by omega), o _ _ (by omega) (by omega) (by omega), o _ _ (by omega) (by omega) (by omega)]
        exact s
      · obtain ⟨s0, a0, b0, e1, e2, e3, e4, e5, e6⟩ := t i hi
        rw [o _ 3 (by omega) (by omega) (by omega), o _ 4 (by omega) (by omega) (by omega)]
        by_cases z : i = hj A k
        · subst z
          rw [cs, e1]
          have : s0 ≠ 0 := fun y => hst (by rw [e1, y]; decide)
          exact ⟨s0 - 1, a0, b0, by rw [show s0 = (s0 - 1) + 1 by omega, nI_pred]; rfl, by omega, e3, e4, e5, e6⟩
        · rw [o _ _ (by omega) (by omega) (by omega)]
          exact ⟨s0, a0, b0, e1, e2, e3, e4, e5, e6⟩
/-- a billet moves to a free place -/
theorem Iv.moved (h : Iv A c N T) {q p : Nat} (hq : q < 7) (hp : p < 7) (hne : q ≠ p) (he : A (24 + q) 0 = -1) (hx : A (24 + p) 0 ≠ -1) : Iv (mvB A q p) c N T := by
  have hc := h.1.1.2.1
  obtain ⟨j, e, l, b, d, s, t⟩ := h
  have o : ∀ r f, r ≠ 24 + q → r ≠ 24 + p → mvB A q p r f = A r f := fun r f h1 h2 => mvB_o h1 h2
  have mq : ∀ f, f < 4 → mvB A q p (24 + q) f = A (24 + p) f := fun f hf => by unfold mvB; rw [up_r (by omega), rowC_s hf]
  have mp : mvB A q p (24 + p) 0 = -1 := by unfold mvB; rw [up_s]
  have mpf : ∀ f, f ≠ 0 → mvB A q p (24 + p) f = A (24 + p) f := fun f hf => by unfold mvB; rw [up_f hf, rowC_o (by omega)]
  have num : ∀ i, i < c → mvB A q p (13 + i) 0 = A (13 + i) 0 := fun i hi => o _ _ (by omega) (by omega)
  have cb : ∀ i, i < c → bc (mvB A q p) i = bc A i := fun i hi => by
    have s1 := bcF_set (b := fun z => A (24 + z) 0) (b' := fun z => if z = q then A (24 + p) 0 else A (24 + z) 0) (x := A (13 + i) 0) (p := q) hq (fun z hz hzne => by simp [hzne])
    have s2 := bcF_set (b := fun z => if z = q then A (24 + p) 0 else A (24 + z) 0) (b' := fun z => mvB A q p (24 + z) 0) (x := A (13 + i) 0) (p := p) hp (fun z hz hzne => by
      by_cases y : z = q
      · subst y; simp [mq 0 (by omega)]
      · simp only [if_neg y]; exact o _ _ (by omega) (by omega))
    unfold bc
    rw [num i hi]
    simp only [if_true, if_neg (show ¬ p = q from fun y => hne y.symm), mp, he] at s1 s2
    have n1 : ¬ (-1 : Int32) = A (13 + i) 0 := fun z => j.num hi z.symm
    rw [if_neg n1] at s1 s2
    omega
  refine ⟨j.congr (fun f hf => o _ _ (by omega) (by omega)) (fun i hi f hf => o _ _ (by omega) (by omega)), fun i hi => ?_, fun i hi => ?_, ⟨fun r hr => ?_, fun r hr => ?_⟩, ⟨fun i hi => ?_, fun i i' hi hi' h1 h2 => ?_⟩, ?_, fun i hi => ?_⟩
  · show mvB A q p (13 + i) 7 = nI (bc (mvB A q p) i)
    rw [cb i hi, o _ _ (by omega) (by omega)]; exact e.bc hi
  · obtain ⟨pp, m, e1, e2, e3, e4⟩ := l i hi
    exact ⟨pp, m, (o _ _ (by omega) (by omega)).trans e1, (o _ _ (by omega) (by omega)).trans e2, e3, by rw [cb i hi]; exact e4⟩
  · by_cases z : r = q
    · subst z
      rw [mq 0 (by omega), mq 3 (by omega)]
      rcases b.1 p hp with y | ⟨⟨i, hi, y⟩, w⟩
      · exact Or.inl y
      · exact Or.inr ⟨⟨i, hi, by rw [num i hi]; exact y⟩, w⟩
    · by_cases z2 : r = p
      · subst z2; exact Or.inl mp
      · rw [o _ _ (by omega) (by omega), o _ _ (by omega) (by omega)]
        rcases b.1 r hr with y | ⟨⟨i, hi, y⟩, w⟩
        · exact Or.inl y
        · exact Or.inr ⟨⟨i, hi, by rw [num i hi]; exact y⟩, w⟩
  · by_cases z : r = q
    · subst z; rw [mq 1 (by omega)]; exact b.2 p hp
    · by_cases z2 : r = p
      · subst z2; rw [mpf 1 (by omega)]; exact b.2 r hr
      · rw [o _ _ (by omega) (by omega)]; exact b.2 r hr
  · obtain ⟨b1, l1, g1, x⟩ := d.1 i hi
    rw [o _ _ (by omega) (by omega), o _ _ (by omega) (by omega), o _ _ (by omega) (by omega)]
    exact ⟨b1, l1, g1, x⟩
  · rw [o _ _ (by omega) (by omega)] at h1 h2
    exact d.2 i i' hi hi' h1 h2
  · unfold iS
    rw [o _ _ (by omega) (by omega), o _ _ (by omega) (by omega), o _ _ (by omega) (by omega), o _ _ (by omega) (by omega)]
    exact s
  · rw [o _ _ (by omega) (by omega), o _ _ (by omega) (by omega), o _ _ (by omega) (by omega)]
    exact t i hi
theorem Iv.load (h : Iv A c N T) (he : A 30 0 = -1) : Iv (aLoad A c) c N T := by
  unfold aLoad
  cases q : fst9 (canLd A) c 0 with
  | none => exact h
  | some k =>
    obtain ⟨-, hk, -, -⟩ := fst9_some q
    show Iv (match hotA A k with | none => A | some p => mvB A 6 p) c N T
    cases q2 : hotA A k with
    | none => exact h
    | some p =>
      have h6 := hotA_lt q2
      exact h.moved (q := 6) (p := p) (by omega) (by omega) (by omega) he (by rw [hotA_job q2]; exact h.1.num (by omega))
end INV
