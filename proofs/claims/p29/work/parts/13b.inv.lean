/-! What is kept: the press's work, the dies. -/
section INW
variable {A A' : Ab} {c N T : Nat}
theorem Iv.hotter (h : Iv A c N T) : Iv (heatUp A) c N T := h.congr (fun f hf => up_r (by omega)) (fun i hi => ⟨up_r (by omega), up_r (by omega), up_r (by omega)⟩) (fun i hi => ⟨up_r (by omega), up_r (by omega), up_r (by omega)⟩) (fun k hk f hf => up_r (by have := h.1.1.2.1; omega)) (fun i hi => ⟨up_f (by omega), up_f (by omega), up_f (by omega)⟩)
/-- the job k has one billet less: that of the place p is taken away -/
theorem Iv.take (h : Iv A c N T) {p k : Nat} (hp : p < 7) (hk : k < c) (hpk : A (24 + p) 0 = A (13 + k) 0) : Iv (aU (aU A (13 + k) 7 (A (13 + k) 7 - 1)) (24 + p) 0 (-1)) c N T ∧ 0 < bc A k ∧ (∀ i, i < c → bc (aU (aU A (13 + k) 7 (A (13 + k) 7 - 1)) (24 + p) 0 (-1)) i = bc A i - (if i = k then 1 else 0)) := by
  have hc := h.1.1.2.1
  obtain ⟨j, e, l, b, d, s, t⟩ := h
  have o : ∀ r f, ¬ (r = 24 + p ∧ f = 0) → ¬ (r = 13 + k ∧ f = 7) → aU (aU A (13 + k) 7 (A (13 + k) 7 - 1)) (24 + p) 0 (-1) r f = A r f := fun r f h1 h2 => by rw [up_o h1, up_o h2]
  have num : ∀ i, i < c → aU (aU A (13 + k) 7 (A (13 + k) 7 - 1)) (24 + p) 0 (-1) (13 + i) 0 = A (13 + i) 0 := fun i hi => o _ _ (by omega) (by omega)
  have pos : 0 < bc A k := by
    unfold bc bcF
    exact cntN_pos (x := p) hp (by simpa using hpk)
  have cb : ∀ i, i < c → bc (aU (aU A (13 + k) 7 (A (13 + k) 7 - 1)) (24 + p) 0 (-1)) i = bc A i - (if i = k then 1 else 0) := fun i hi => by
    have := bcF_set (b := fun z => A (24 + z) 0) (b' := fun z => aU (aU A (13 + k) 7 (A (13 + k) 7 - 1)) (24 + p) 0 (-1) (24 + z) 0) (x := A (13 + i) 0) (p := p) hp (fun z hz hne => o _ _ (by omega) (by omega))
    unfold bc at pos ⊢
    rw [num i hi]
    simp only [up_s, hpk] at this
    rw [if_neg (show ¬ (-1 : Int32) = A (13 + i) 0 from fun z => j.num hi z.symm)] at this
    by_cases z : i = k
    · subst z
      rw [if_pos rfl] at this
      rw [if_pos rfl]; omega
    · rw [if_neg (show ¬ A (13 + k) 0 = A (13 + i) 0 from fun y => z (j.inj hi hk y.symm))] at this
      rw [if_neg z]; omega
  refine ⟨⟨j.congr (fun f hf => o _ _ (by omega) (by omega)) (fun i hi f hf => o _ _ (by omega) (by omega)), fun i hi => ?_, fun i hi => ?_, ⟨fun r hr => ?_, fun r hr => ?_⟩, ⟨fun i hi => ?_, fun i i' hi hi' h1 h2 => ?_⟩, ?_, fun i hi => ?_⟩, pos, cb⟩
  · show aU (aU A (13 + k) 7 (A (13 + k) 7 - 1)) (24 + p) 0 (-1) (13 + i) 7 = nI (bc _ i)
    rw [cb i hi]
    by_cases z : i = k
    · subst z
      rw [up_r (by omega), up_s, e.bc hi, if_pos rfl, show bc A i = (bc A i - 1) + 1 by omega, nI_pred]; rfl
    · rw [o _ _ (by omega) (by omega), e.bc hi, if_neg z]; rfl
  · obtain ⟨pp, m, e1, e2, e3, e4⟩ := l i hi
    exact ⟨pp, m, (o _ _ (by omega) (by omega)).trans e1, (o _ _ (by omega) (by omega)).trans e2, e3, by rw [cb i hi]; omega⟩
  · by_cases z : r = p
    · subst z; exact Or.inl up_s
    · rw [o _ _ (by omega) (by omega), o _ _ (by omega) (by omega)]
      rcases b.1 r hr with y | ⟨⟨i, hi, y⟩, w⟩
      · exact Or.inl y
      · exact Or.inr ⟨⟨i, hi, by rw [num i hi]; exact y⟩, w⟩
  · rw [o _ _ (by omega) (by omega)]; exact b.2 r hr
  · obtain ⟨b1, l1, g1, x⟩ := d.1 i hi
    rw [o _ _ (by omega) (by omega), o _ _ (by omega) (by omega), o _ _ (by omega) (by omega)]
    exact ⟨b1, l1, g1, x⟩
  · rw [o _ _ (by omega) (by omega)] at h1 h2
    exact d.2 i i' hi hi' h1 h2
  · unfold iS
    rw [o _ _ (by omega) (by omega), o _ _ (by omega) (by omega), o _ _ (by omega) (by omega), o _ _ (by omega) (by omega)]
    exact s
  · rw [o _ _ (by omega) (by omega), o _ _ (by omega) (by omega), o _ _ (by omega) (by omega)]
    exact t i hi
/-- pieces and scrap of a heat -/
theorem Iv.heat (h : Iv A c N T) {i f : Nat} (hi : i < 4) (hf : f = 3 ∨ f = 4) (hT : T < 2 ^ 30) : Iv (aU A (2 + i) f (A (2 + i) f + 1)) c N (T + 1) := by
  have hc := h.1.1.2.1
  have w := h.mono (T' := T + 1) (by omega)
  obtain ⟨j, e, l, b, d, s, t⟩ := w
  have o : ∀ r g, ¬ (r = 2 + i ∧ g = f) → aU A (2 + i) f (A (2 + i) f + 1) r g = A r g := fun r g h1 => up_o h1
  refine ⟨j.congr (fun f hf => o _ _ (by omega)) (fun i hi f hf => o _ _ (by omega)), fun z hz => ?_, fun z hz => ?_, ⟨fun r hr => ?_, fun r hr => ?_⟩, ⟨fun i hi => ?_, fun i i' hi hi' h1 h2 => ?_⟩, ?_, fun z hz => ?_⟩
  · rw [o _ _ (by omega)]
    have := bc_congr (A' := aU A (2 + i) f (A (2 + i) f + 1)) (A := A) (k := z) (fun p hp => o _ _ (by omega)) (o _ _ (by omega))
    exact (e.bc hz).trans (by rw [← this]; rfl)
  · obtain ⟨p, m, e1, e2, e3, e4⟩ := l z hz
    exact ⟨p, m, (o _ _ (by omega)).trans e1, (o _ _ (by omega)).trans e2, e3, by rw [bc_congr (A := A) (fun p hp => o _ _ (by omega)) (o _ _ (by omega))]; exact e4⟩
  · rw [o _ _ (by omega), o _ _ (by omega)]
    rcases b.1 r hr with y | ⟨⟨k, hk, y⟩, w⟩
    · exact Or.inl y
    · exact Or.inr ⟨⟨k, hk, by rw [o _ _ (by omega)]; exact y⟩, w⟩
  · rw [o _ _ (by omega)]; exact b.2 r hr
  · obtain ⟨b1, l1, g1, x⟩ := d.1 i hi
    rw [o _ _ (by omega), o _ _ (by omega), o _ _ (by omega)]
    exact ⟨b1, l1, g1, x⟩
  · rw [o _ _ (by omega)] at h1 h2
    exact d.2 i i' hi hi' h1 h2
  · unfold iS
    rw [o _ _ (by omega), o _ _ (by omega), o _ _ (by omega), o _ _ (by omega)]
    exact s
  · by_cases q : z = i
    · subst q
      obtain ⟨s0, a0, b0, e1, e2, e3, e4, e5, e6⟩ := h.2.2.2.2.2.2 z hz
      rcases hf with rfl | rfl
      · exact ⟨s0, a0 + 1, b0, by rw [o _ _ (by omega)]; exact e1, e2, by rw [up_s, e3, nI_1], by omega, by rw [o _ _ (by omega)]; exact e5, by omega⟩
      · exact ⟨s0, a0, b0 + 1, by rw [o _ _ (by omega)]; exact e1, e2, by rw [o _ _ (by omega)]; exact e3, by omega, by rw [up_s, e5, nI_1], by omega⟩
    · rw [o _ _ (by omega), o _ _ (by omega), o _ _ (by omega)]
      exact t z hz
theorem Iv.scr (h : Iv A c N T) {k : Nat} (hk : k < c) (hpk : A 30 0 = A (13 + k) 0) (hT : T < 2 ^ 30) : Iv (scrA A k) c N (T + 1) := by
  have hc := h.1.1.2.1
  have hh := (h.1.1.h hk).1
  have := (h.take (p := 6) (by omega) hk hpk).1.heat hh (f := 4) (Or.inr rfl) hT
  unfold scrA
  rw [up_r (by omega), up_r (by omega), aU_comm (r := 24 + 6) (f := 0) (r' := 2 + hj A k) (by omega)] at this
  exact this
theorem Iv.back (h : Iv A c N T) {k : Nat} (hk : k < c) (hpk : A 30 0 = A (13 + k) 0) (hT : T < 2 ^ 30) : Iv (aBack A k) c N (T + 1) := by
  have hc := h.1.1.2.1
  have h1 := h.hotter
  have hpk1 : heatUp A 30 0 = heatUp A (13 + k) 0 := by
    unfold heatUp
    rw [up_f (by omega), up_r (by omega)]; exact hpk
  have scr := h1.scr hk hpk1 hT
  unfold aBack
  cases q : freeA A with
  | none => exact scr
  | some p =>
    obtain ⟨-, hp6, efree, -⟩ := fst9_some q
    simp only [decide_eq_true_eq] at efree
    show Iv (if A 30 2 + 1 ≤ A 0 9 then mvB (heatUp A) p 6 else scrA (heatUp A) k) c N (T + 1)
    split
    · refine (h1.moved (q := p) (p := 6) (by omega) (by omega) (by omega) ?_ ?_).mono (by omega)
      · unfold heatUp; rw [up_r (by omega)]; exact efree
      · show heatUp A 30 0 ≠ -1
        rw [hpk1]; exact h1.1.num hk
    · exact scr
/-- the press's billet is colder -/
theorem Iv.strike (h : Iv A c N T) {k : Nat} (hk : k < c) (hx : A 30 0 ≠ -1) (h3 : ¬ A 30 3 - 1 ≤ 0) : Iv (strikeA A k) c N T := by
  have hc := h.1.1.2.1
  have hd := (h.1.1.d hk).1
  obtain ⟨j, e, l, b, d, s, t⟩ := h
  have o : ∀ r f, ¬ (r = 30 ∧ (f = 1 ∨ f = 3)) → ¬ (7 ≤ r ∧ r < 12 ∧ f = 2) → ¬ (r = 0 ∧ f = 12) → strikeA A k r f = A r f := fun r f h1 h2 h4 => by
    unfold strikeA
    rw [up_o h4, up_o (by omega), up_o (by omega), up_o (by omega)]
  have s1 : strikeA A k 30 1 = (if 20 < A 30 1 - A 0 8 then A 30 1 - A 0 8 else 20) := by unfold strikeA; rw [up_r (by omega), up_f (by omega), up_s]
  have s3 : strikeA A k 30 3 = A 30 3 - 1 := by unfold strikeA; rw [up_r (by omega), up_s]
  refine ⟨j.congr (fun f hf => o _ _ (by omega) (by omega) (by omega)) (fun i hi f hf => o _ _ (by omega) (by omega) (by omega)), fun i hi => ?_, fun i hi => ?_, ⟨fun r hr => ?_, fun r hr => ?_⟩, ⟨fun i hi => ?_, fun i i' hi hi' h1 h2 => ?_⟩, ?_, fun i hi => ?_⟩
  · rw [o _ _ (by omega) (by omega) (by omega)]
    have := bc_congr (A' := strikeA A k) (A := A) (k := i) (fun p hp => o _ _ (by omega) (by omega) (by omega)) (o _ _ (by omega) (by omega) (by omega))
    exact (e.bc hi).trans (by rw [← this]; rfl)
  · obtain ⟨p, m, e1, e2, e3, e4⟩ := l i hi
    exact ⟨p, m, (o _ _ (by omega) (by omega) (by omega)).trans e1, (o _ _ (by omega) (by omega) (by omega)).trans e2, e3, by rw [bc_congr (A := A) (fun p hp => o _ _ (by omega) (by omega) (by omega)) (o _ _ (by omega) (by omega) (by omega))]; exact e4⟩
  · rw [o _ 0 (by omega) (by omega) (by omega)]
    rcases b.1 r hr with y | ⟨⟨i, hi, y⟩, bb, w1, w2, w3⟩
    · exact Or.inl y
    · refine Or.inr ⟨⟨i, hi, by rw [o _ _ (by omega) (by omega) (by omega)]; exact y⟩, ?_⟩
      by_cases z : r = 6
      · subst z
        refine ⟨bb - 1, ?_, ?_, by omega⟩
        · show strikeA A k 30 3 = _
          rw [s3, show A 30 3 = nI bb from w1, show bb = (bb - 1) + 1 by omega, nI_pred]; rfl
        · rw [show A 30 3 = nI bb from w1, show bb = (bb - 1) + 1 by omega, nI_pred] at h3
          rcases Nat.eq_zero_or_pos (bb - 1) with z | z
          · rw [z] at h3; exact absurd (by decide) h3
          · exact z
      · exact ⟨bb, by rw [o _ _ (by omega) (by omega) (by omega)]; exact w1, w2, w3⟩
  · by_cases z : r = 6
    · subst z
      obtain ⟨t0, et, ht⟩ := b.2 6 (by omega)
      obtain ⟨w, x, r, g, -, -, ex, hx2, -⟩ := s
      show ∃ t, strikeA A k 30 1 = nI t ∧ t ≤ 1250
      rw [s1, show A 30 1 = nI t0 from et, ex]
      by_cases q : 20 < nI t0 - nI x
      · rw [if_pos q]
        have t1 := nI_sub_toInt (a := t0) (b := x) (by omega) (by omega)
        have q' := Int32.lt_iff_toInt_lt.mp q
        rw [t1, show (20 : Int32).toInt = 20 from rfl] at q'
        exact ⟨t0 - x, by rw [← Int32.toInt_inj, t1, nI_toInt (by omega)]; omega, by omega⟩
      · rw [if_neg q]; exact ⟨20, rfl, by omega⟩
    · rw [o _ _ (by omega) (by omega) (by omega)]; exact b.2 r hr
  · obtain ⟨b1, l1, g1, x⟩ := d.1 i hi
    rw [o _ _ (by omega) (by omega) (by omega), o _ _ (by omega) (by omega) (by omega), o _ _ (by omega) (by omega) (by omega)]
    exact ⟨b1, l1, g1, x⟩
  · rw [o _ _ (by omega) (by omega) (by omega)] at h1 h2
    exact d.2 i i' hi hi' h1 h2
  · unfold iS
    rw [o _ _ (by omega) (by omega) (by omega), o _ _ (by omega) (by omega) (by omega), o _ _ (by omega) (by omega) (by omega), o _ _ (by omega) (by omega) (by omega)]
    exact s
  · rw [o _ _ (by omega) (by omega) (by omega), o _ _ (by omega) (by omega) (by omega), o _ _ (by omega) (by omega) (by omega)]
    exact t i hi
end INW
