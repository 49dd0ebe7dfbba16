/-! What is kept: a piece is made, a job goes, a minute passes. -/
section INC
variable {A A' : Ab} {c N T : Nat}
theorem remA_o {k r f : Nat} (h1 : ¬ (13 ≤ r ∧ r < 23)) (h2 : ¬ (r = 0 ∧ f = 5)) : remA A c k r f = A r f := by
  unfold remA
  rw [rowsP_o h1, up_o h2]
theorem remA_J {k i : Nat} (hc : c ≤ 10) (hi : i < c - 1) : remA A c k (13 + i) = A (13 + (if k ≤ i then i + 1 else i)) := by
  funext f
  unfold remA
  rw [rowsP_J (by omega), up_r (by omega), mvr hi]
theorem Iv.rem (h : Iv A c N T) {k : Nat} (hk : k < c) (h0 : bc A k = 0) : Iv (remA A c k) (c - 1) N T := by
  have hc := h.1.1.2.1
  obtain ⟨j, e, l, b, d, s, t⟩ := h
  have o : ∀ r f, ¬ (13 ≤ r ∧ r < 23) → ¬ (r = 0 ∧ f = 5) → remA A c k r f = A r f := fun r f => remA_o
  have J : ∀ i, i < c - 1 → remA A c k (13 + i) = A (13 + (if k ≤ i then i + 1 else i)) := fun i hi => remA_J hc hi
  have lt : ∀ i, i < c - 1 → (if k ≤ i then i + 1 else i) < c := fun i hi => by split <;> omega
  have cb : ∀ i, i < c - 1 → bc (remA A c k) i = bc A (if k ≤ i then i + 1 else i) := fun i hi => by
    unfold bc bcF
    rw [J i hi]
    exact cntN_congr fun p hp => by
      show decide (remA A c k (24 + p) 0 = _) = decide (A (24 + p) 0 = _)
      rw [o _ _ (by omega) (by omega)]
  have nob : ∀ p, p < 7 → A (24 + p) 0 ≠ A (13 + k) 0 := fun p hp z => by
    have : 0 < bc A k := by
      unfold bc bcF
      exact cntN_pos (x := p) hp (by simpa using z)
    omega
  refine ⟨⟨⟨remA_5, by omega, fun i hi => ?_⟩, fun a a' ha ha' => ?_, fun i hi => ?_, ?_, j.2.2.2.2.1, fun i i' hi hi' q => ?_, fun i hi => ?_⟩, fun i hi => ?_, fun i hi => ?_, ⟨fun p hp => ?_, fun p hp => ?_⟩, ⟨fun i hi => ?_, fun i i' hi hi' h1 h2 => ?_⟩, ?_, fun i hi => ?_⟩
  · rw [J i hi]; exact j.1.2.2 _ (lt i hi)
  · rw [J a (by omega), J a' ha']
    refine j.2.1 _ _ ?_ (lt a' ha')
    split <;> split <;> omega
  · rw [J i hi]; exact j.2.2.1 _ (lt i hi)
  · rw [o _ _ (by omega) (by omega)]; exact j.2.2.2.1
  · rw [J i hi, J i' hi'] at q
    have := j.inj (lt i hi) (lt i' hi') q
    split at this <;> split at this <;> omega
  · rw [J i hi]; exact j.2.2.2.2.2.2 _ (lt i hi)
  · show remA A c k (13 + i) 7 = nI (bc (remA A c k) i)
    rw [cb i hi, J i hi]; exact e.bc (lt i hi)
  · obtain ⟨p, m, e1, e2, e3, e4⟩ := l _ (lt i hi)
    exact ⟨p, m, by rw [J i hi]; exact e1, by rw [J i hi]; exact e2, e3, by rw [cb i hi]; exact e4⟩
  · rw [o _ _ (by omega) (by omega), o _ _ (by omega) (by omega)]
    rcases b.1 p hp with y | ⟨⟨i, hi, y⟩, w⟩
    · exact Or.inl y
    · have hik : i ≠ k := fun z => nob p hp (by rw [y, z])
      refine Or.inr ⟨⟨if k ≤ i then i - 1 else i, ?_, ?_⟩, w⟩
      · split <;> omega
      · rw [J _ (by split <;> omega), y]
        congr 2
        by_cases z : k ≤ i
        · rw [if_pos z, if_pos (by omega)]; omega
        · rw [if_neg z, if_neg z]
  · rw [o _ _ (by omega) (by omega)]; exact b.2 p hp
  · obtain ⟨b1, l1, g1, x⟩ := d.1 i hi
    rw [o _ _ (by omega) (by omega), o _ _ (by omega) (by omega), o _ _ (by omega) (by omega)]
    exact ⟨b1, l1, g1, x⟩
  · rw [o _ _ (by omega) (by omega)] at h1 h2
    exact d.2 i i' hi hi' h1 h2
  · unfold iS
    rw [o _ _ (by omega) (by omega), o _ _ (by omega) (by omega), o _ _ (by omega) (by omega), o _ _ (by omega) (by omega)]
    exact s
  · rw [o _ _ (by omega) (by omega), o _ _ (by omega) (by omega), o _ _ (by omega) (by omega)]
    exact t i hi
/-- the pieces of one job and what lies in empty places may change -/
theorem Iv.made {Y X : Ab} (h : Iv Y c N T) {k : Nat} (h0 : ∀ f, f < 11 → X 0 f = Y 0 f) (hH : ∀ i, i < 4 → X (2 + i) 0 = Y (2 + i) 0 ∧ X (2 + i) 3 = Y (2 + i) 3 ∧ X (2 + i) 4 = Y (2 + i) 4) (hD : ∀ d, d < 5 → X (7 + d) 0 = Y (7 + d) 0 ∧ X (7 + d) 1 = Y (7 + d) 1 ∧ X (7 + d) 3 = Y (7 + d) 3) (hJ : ∀ i, i < c → ∀ f, f < 8 → ¬ (i = k ∧ f = 4) → X (13 + i) f = Y (13 + i) f) (h4 : ∃ p m, Y (13 + k) 3 = nI p ∧ X (13 + k) 4 = nI m ∧ p ≤ 40 ∧ m < p ∧ m + bc Y k ≤ p) (hB : ∀ p, p < 7 → X (24 + p) 0 = Y (24 + p) 0) (hB1 : ∀ p, p < 7 → ∃ t, X (24 + p) 1 = nI t ∧ t ≤ 1250) (hB3 : ∀ p, p < 7 → Y (24 + p) 0 ≠ -1 → X (24 + p) 3 = Y (24 + p) 3) : Iv X c N T := by
  have hc := h.1.1.2.1
  obtain ⟨j, e, l, b, d, s, t⟩ := h
  have cb : ∀ i, i < c → bc X i = bc Y i := fun i hi => bc_congr hB (hJ i hi 0 (by omega) (by omega))
  refine ⟨⟨⟨(h0 5 (by omega)).trans j.1.1, hc, fun i hi => ?_⟩, fun a a' ha ha' => ?_, fun i hi => ?_, (h0 6 (by omega)).trans j.2.2.2.1, j.2.2.2.2.1, fun i i' hi hi' q => ?_, fun i hi => ?_⟩, fun i hi => ?_, fun i hi => ?_, ⟨fun p hp => ?_, hB1⟩, ⟨fun i hi => ?_, fun i i' hi hi' h1 h2 => ?_⟩, ?_, fun i hi => ?_⟩
  · rw [hJ i hi 1 (by omega) (by omega), hJ i hi 2 (by omega) (by omega), hJ i hi 6 (by omega) (by omega)]
    exact j.1.2.2 i hi
  · have := j.2.1 a a' ha ha'
    rw [bef_iff] at this ⊢
    rw [hJ a (by omega) 0 (by omega) (by omega), hJ a (by omega) 5 (by omega) (by omega), hJ a (by omega) 6 (by omega) (by omega), hJ a' ha' 0 (by omega) (by omega), hJ a' ha' 5 (by omega) (by omega), hJ a' ha' 6 (by omega) (by omega)]
    exact this
  · rw [hJ i hi 0 (by omega) (by omega)]; exact j.2.2.1 i hi
  · rw [hJ i hi 0 (by omega) (by omega), hJ i' hi' 0 (by omega) (by omega)] at q
    exact j.inj hi hi' q
  · obtain ⟨p, m, u, e1, e2, e3, e4, e5, e6⟩ := j.2.2.2.2.2.2 i hi
    rw [hJ i hi 3 (by omega) (by omega), hJ i hi 5 (by omega) (by omega)]
    by_cases z : i = k
    · subst z
      obtain ⟨p', m', f1, f2, f5, f3, f4⟩ := h4
      exact ⟨p, m', u, e1, f2, e3, by
        have : p' = p := (nI_eq (by omega) (by omega)).mp (f1.symm.trans e1)
        omega, e5, e6⟩
    · exact ⟨p, m, u, e1, (hJ i hi 4 (by omega) (by omega)).trans e2, e3, e4, e5, e6⟩
  · rw [hJ i hi 7 (by omega) (by omega)]
    exact (e.bc hi).trans (by rw [← cb i hi]; rfl)
  · obtain ⟨p, m, e1, e2, e3, e4⟩ := l i hi
    by_cases z : i = k
    · subst z
      obtain ⟨p', m', f1, f2, f5, f3, f4⟩ := h4
      have : nI p' = nI p := f1.symm.trans e1
      refine ⟨p, m', (hJ i hi 3 (by omega) (by omega)).trans e1, f2, e3, ?_⟩
      rw [cb i hi]
      have hp' : p' = p := (nI_eq (by omega) (by omega)).mp this
      omega
    · exact ⟨p, m, (hJ i hi 3 (by omega) (by omega)).trans e1, (hJ i hi 4 (by omega) (by omega)).trans e2, e3, by rw [cb i hi]; exact e4⟩
  · rw [hB p hp]
    rcases b.1 p hp with y | ⟨⟨i, hi, y⟩, w⟩
    · exact Or.inl y
    · refine Or.inr ⟨⟨i, hi, by rw [hJ i hi 0 (by omega) (by omega)]; exact y⟩, ?_⟩
      rw [hB3 p hp (by rw [y]; exact j.num hi)]
      exact w
  · obtain ⟨b1, l1, g1, x⟩ := d.1 i hi
    rw [(hD i hi).1, (hD i hi).2.1, (hD i hi).2.2]
    exact ⟨b1, l1, g1, x⟩
  · rw [(hD i hi).2.2] at h1
    rw [(hD i' hi').2.2] at h2
    exact d.2 i i' hi hi' h1 h2
  · unfold iS
    rw [h0 7 (by omega), h0 8 (by omega), h0 9 (by omega), h0 10 (by omega)]
    exact s
  · rw [(hH i hi).1, (hH i hi).2.1, (hH i hi).2.2]
    exact t i hi
theorem strike_t (b : iB A c) (s : iS A) {k : Nat} (hd : dj A k < 5) : ∃ t, strikeA A k 30 1 = nI t ∧ t ≤ 1250 := by
  have s1 : strikeA A k 30 1 = (if 20 < A 30 1 - A 0 8 then A 30 1 - A 0 8 else 20) := by unfold strikeA; rw [up_r (by omega), up_f (by omega), up_s]
  obtain ⟨t0, et, ht⟩ := b.2 6 (by omega)
  obtain ⟨w, x, r, g, -, -, ex, hx2, -⟩ := s
  rw [s1, show A 30 1 = nI t0 from et, ex]
  by_cases q : 20 < nI t0 - nI x
  · rw [if_pos q]
    have t1 := nI_sub_toInt (a := t0) (b := x) (by omega) (by omega)
    have q' := Int32.lt_iff_toInt_lt.mp q
    rw [t1, show (20 : Int32).toInt = 20 from rfl] at q'
    exact ⟨t0 - x, by rw [← Int32.toInt_inj, t1, nI_toInt (by omega)]; omega, by omega⟩
  · rw [if_neg q]; exact ⟨20, rfl, by omega⟩
end INC
