/-! What is kept: the press works, the dies are tended, a minute passes. -/
section IND
variable {A A' : Ab} {c N T : Nat}
theorem strike_hj {k l : Nat} (hl : l < 10) (hd : dj A k < 5) : hj (strikeA A k) l = hj A l := by unfold hj; rw [strikeA_J hl hd]
theorem strike_dj {k l : Nat} (hl : l < 10) (hd : dj A k < 5) : dj (strikeA A k) l = dj A l := by unfold dj; rw [strikeA_J hl hd]
theorem made_o {k : Nat} (hk : k < 10) (hd : dj A k < 5) : ∀ r f, ¬ (r = 30 ∧ (f = 0 ∨ f = 1 ∨ f = 3)) → ¬ (7 ≤ r ∧ r < 12 ∧ (f = 2 ∨ f = 4)) → ¬ (r = 0 ∧ f = 12) → ¬ (r = 13 + k ∧ (f = 7 ∨ f = 4)) → ¬ (r = 2 + hj A k ∧ f = 3) → makeA (strikeA A k) k r f = A r f := fun r f h1 h2 h3 h4 h5 => by
  unfold makeA
  rw [strike_hj hk hd, strike_dj hk hd, up_o (by omega), up_o h5, up_o (by omega), up_o (by omega), up_o (by omega)]
  unfold strikeA
  rw [up_o h3, up_o (by omega), up_o (by omega), up_o (by omega)]
theorem made_4 {k : Nat} (hk : k < 10) (hd : dj A k < 5) (hh : hj A k < 4) : makeA (strikeA A k) k (13 + k) 4 = A (13 + k) 4 + 1 := by
  unfold makeA
  rw [strike_hj hk hd, strike_dj hk hd, up_r (by omega), up_r (by omega), up_s, strikeA_J hk hd]
theorem made_7 {k : Nat} (hk : k < 10) (hd : dj A k < 5) (hh : hj A k < 4) : makeA (strikeA A k) k (13 + k) 7 = A (13 + k) 7 - 1 := by
  unfold makeA
  rw [strike_hj hk hd, strike_dj hk hd, up_r (by omega), up_r (by omega), up_f (by omega), up_s, strikeA_J hk hd]
theorem made_3 {k : Nat} (hk : k < 10) (hd : dj A k < 5) (hh : hj A k < 4) : makeA (strikeA A k) k (2 + hj A k) 3 = A (2 + hj A k) 3 + 1 := by
  unfold makeA
  rw [strike_hj hk hd, strike_dj hk hd, up_r (by omega), up_s]
  unfold strikeA
  rw [up_r (by omega), up_r (by omega), up_r (by omega), up_r (by omega)]
theorem made_0 {k : Nat} (hk : k < 10) (hd : dj A k < 5) (hh : hj A k < 4) : makeA (strikeA A k) k 30 0 = -1 := by
  unfold makeA
  rw [strike_hj hk hd, strike_dj hk hd, up_r (by omega), up_r (by omega), up_r (by omega), up_r (by omega), up_s]
theorem made_1 {k : Nat} (hk : k < 10) (hd : dj A k < 5) (hh : hj A k < 4) : makeA (strikeA A k) k 30 1 = strikeA A k 30 1 := by
  unfold makeA
  rw [strike_hj hk hd, strike_dj hk hd, up_r (by omega), up_r (by omega), up_r (by omega), up_r (by omega), up_f (by omega)]
theorem Iv.work (h : Iv A c N T) {k : Nat} (hk : k < c) (hpk : A 30 0 = A (13 + k) 0) (hT : T < 2 ^ 30) : Iv (aWork A c k) (cnt (aWork A c k)) N (T + 1) := by
  have hc := h.1.1.2.1
  have hd := (h.1.1.d hk).1
  have hh := (h.1.1.h hk).1
  have hx : A 30 0 ≠ -1 := by rw [hpk]; exact h.1.num hk
  have h5 := h.1.1.1
  have ib := h.2.2.2.1
  have is := h.2.2.2.2.2.1
  obtain ⟨ta, pos, cb⟩ := h.take (p := 6) (by omega) hk hpk
  have hY := ta.heat hh (f := 3) (Or.inl rfl) hT
  obtain ⟨pp, m, e3, e4, e40, el⟩ := h.2.2.1 k hk
  have hmp : m < pp := by
    obtain ⟨p1, m1, u1, f1, f2, -, f4, f5, -⟩ := h.1.2.2.2.2.2.2 k hk
    have h1 : p1 = pp := (nI_eq (by omega) (by omega)).mp (f1.symm.trans e3)
    have h2 : m1 = m := (nI_eq (by omega) (by omega)).mp (f2.symm.trans e4)
    omega
  rw [up_r (by omega), up_r (by omega)] at hY
  generalize hYe : aU (aU (aU A (13 + k) 7 (A (13 + k) 7 - 1)) (24 + 6) 0 (-1)) (2 + hj A k) 3 (A (2 + hj A k) 3 + 1) = Y at hY
  have Yo : ∀ r f, ¬ (r = 30 ∧ f = 0) → ¬ (r = 13 + k ∧ f = 7) → ¬ (r = 2 + hj A k ∧ f = 3) → Y r f = A r f := fun r f h1 h2 h3 => by
    rw [← hYe, up_o h3, up_o (by omega), up_o h2]
  have Y0 : Y 30 0 = -1 := by rw [← hYe, up_r (by omega), up_s]
  have Y7 : Y (13 + k) 7 = A (13 + k) 7 - 1 := by rw [← hYe, up_r (by omega), up_r (by omega), up_s]
  have Y3 : Y (2 + hj A k) 3 = A (2 + hj A k) 3 + 1 := by rw [← hYe, up_s]
  have Yb : bc Y k = bc A k - 1 := by
    rw [← hYe]
    have := cb k hk
    rw [if_pos rfl] at this
    rw [← this]
    exact bc_congr (fun p hp => up_r (by omega)) (up_r (by omega))
  generalize hXe : makeA (strikeA A k) k = X
  have k10 : k < 10 := by omega
  have Xo : ∀ r f, ¬ (r = 30 ∧ (f = 0 ∨ f = 1 ∨ f = 3)) → ¬ (7 ≤ r ∧ r < 12 ∧ (f = 2 ∨ f = 4)) → ¬ (r = 0 ∧ f = 12) → ¬ (r = 13 + k ∧ (f = 7 ∨ f = 4)) → ¬ (r = 2 + hj A k ∧ f = 3) → X r f = A r f := by rw [← hXe]; exact made_o k10 hd
  have X4 : X (13 + k) 4 = A (13 + k) 4 + 1 := by rw [← hXe]; exact made_4 k10 hd hh
  have X7 : X (13 + k) 7 = A (13 + k) 7 - 1 := by rw [← hXe]; exact made_7 k10 hd hh
  have X3 : X (2 + hj A k) 3 = A (2 + hj A k) 3 + 1 := by rw [← hXe]; exact made_3 k10 hd hh
  have X0 : X 30 0 = -1 := by rw [← hXe]; exact made_0 k10 hd hh
  have X1 : ∃ t, X 30 1 = nI t ∧ t ≤ 1250 := by rw [← hXe, made_1 k10 hd hh]; exact strike_t ib is hd
  have main : ∀ Z : Ab, (∀ r f, ¬ (r = 13 + k ∧ f = 4) → Z r f = X r f) → (∃ p m, Y (13 + k) 3 = nI p ∧ Z (13 + k) 4 = nI m ∧ p ≤ 40 ∧ m < p ∧ m + bc Y k ≤ p) → Iv Z c N (T + 1) := fun Z hZ h4 => by
    refine hY.made (k := k) (fun f hf => ?_) (fun i hi => ?_) (fun i hi => ?_) (fun i hi f hf hne => ?_) h4 (fun p hp => ?_) (fun p hp => ?_) (fun p hp hne => ?_)
    · rw [hZ _ _ (by omega), Xo _ _ (by omega) (by omega) (by omega) (by omega) (by omega), Yo _ _ (by omega) (by omega) (by omega)]
    · refine ⟨?_, ?_, ?_⟩
      · rw [hZ _ _ (by omega), Xo _ _ (by omega) (by omega) (by omega) (by omega) (by omega), Yo _ _ (by omega) (by omega) (by omega)]
      · by_cases z : i = hj A k
        · rw [hZ _ _ (by omega), z, X3, Y3]
        · rw [hZ _ _ (by omega), Xo _ _ (by omega) (by omega) (by omega) (by omega) (by omega), Yo _ _ (by omega) (by omega) (by omega)]
      · rw [hZ _ _ (by omega), Xo _ _ (by omega) (by omega) (by omega) (by omega) (by omega), Yo _ _ (by omega) (by omega) (by omega)]
    · refine ⟨?_, ?_, ?_⟩ <;> rw [hZ _ _ (by omega), Xo _ _ (by omega) (by omega) (by omega) (by omega) (by omega), Yo _ _ (by omega) (by omega) (by omega)]
    · by_cases z : i = k ∧ f = 7
      · rw [z.1, z.2, hZ _ _ (by omega), X7, Y7]
      · rw [hZ _ _ (by omega), Xo _ _ (by omega) (by omega) (by omega) (by omega) (by omega), Yo _ _ (by omega) (by omega) (by omega)]
    · by_cases z : p = 6
      · subst z; exact (hZ 30 0 (by omega)).trans (X0.trans Y0.symm)
      · rw [hZ _ _ (by omega), Xo _ _ (by omega) (by omega) (by omega) (by omega) (by omega), Yo _ _ (by omega) (by omega) (by omega)]
    · by_cases z : p = 6
      · subst z
        obtain ⟨t, e, ht⟩ := X1
        exact ⟨t, (hZ 30 1 (by omega)).trans e, ht⟩
      · rw [hZ _ _ (by omega), Xo _ _ (by omega) (by omega) (by omega) (by omega) (by omega)]
        exact ib.2 p hp
    · have z : p ≠ 6 := fun z => hne (by rw [z]; exact Y0)
      rw [hZ _ _ (by omega), Xo _ _ (by omega) (by omega) (by omega) (by omega) (by omega), Yo _ _ (by omega) (by omega) (by omega)]
  have Y3p : Y (13 + k) 3 = nI pp := (Yo _ _ (by omega) (by omega) (by omega)).trans e3
  unfold aWork
  split
  · split
    · unfold aMade
      rw [strikeA_J (by omega) hd, strikeA_J (by omega) hd, e3, e4, nI_1, hXe]
      by_cases q : nI (m + 1) < nI pp
      · rw [if_pos q, cnt_of (c := c) (by rw [Xo _ _ (by omega) (by omega) (by omega) (by omega) (by omega)]; exact h5) hc]
        have q' := (nI_ltI (by omega) (by omega)).mp q
        exact main X (fun r f _ => rfl) ⟨pp, m + 1, Y3p, by rw [X4, e4, nI_1], e40, q', by omega⟩
      · rw [if_neg q, cnt_of (c := c - 1) remA_5 (by omega)]
        have q' : ¬ m + 1 < pp := fun z => q ((nI_ltI (by omega) (by omega)).mpr z)
        have Y0b : bc Y k = 0 := by omega
        generalize hZe : aU X (13 + k) 4 (A (13 + k) 4) = Z
        have Zo : ∀ r f, ¬ (r = 13 + k ∧ f = 4) → Z r f = X r f := fun r f hf => by rw [← hZe]; exact up_o hf
        have Z4 : Z (13 + k) 4 = A (13 + k) 4 := by rw [← hZe]; exact up_s
        have iz := main Z Zo ⟨pp, m, Y3p, Z4.trans e4, e40, hmp, by omega⟩
        have zb : bc Z k = 0 := by
          rw [← Y0b]
          refine bc_congr (fun p hp => ?_) ?_
          · by_cases z : p = 6
            · subst z; exact (Zo 30 0 (by omega)).trans (X0.trans Y0.symm)
            · rw [Zo _ _ (by omega), Xo _ _ (by omega) (by omega) (by omega) (by omega) (by omega), Yo _ _ (by omega) (by omega) (by omega)]
          · rw [Zo _ _ (by omega), Xo _ _ (by omega) (by omega) (by omega) (by omega) (by omega), Yo _ _ (by omega) (by omega) (by omega)]
        have go : ∀ r f, ¬ (r = 0 ∧ 13 ≤ f) → goneA X k r f = X r f := fun r f hf => by
          unfold goneA
          split
          · rw [up_o (by omega)]
          · rw [up_o (by omega), up_o (by omega), up_o (by omega)]
        have eqo : ∀ r f, ¬ (13 ≤ r ∧ r < 23) → ¬ (r = 0 ∧ 13 ≤ f) → remA (goneA X k) c k r f = remA Z c k r f := fun r f h1 h2 => by
          by_cases y : r = 0 ∧ f = 5
          · rw [y.1, y.2, remA_5, remA_5]
          · rw [remA_o h1 y, remA_o h1 y, go _ _ h2, Zo _ _ (by omega)]
        refine (iz.rem hk zb).congr (fun f hf => eqo _ _ (by omega) (by omega)) (fun i hi => ⟨eqo _ _ (by omega) (by omega), eqo _ _ (by omega) (by omega), eqo _ _ (by omega) (by omega)⟩) (fun i hi => ⟨eqo _ _ (by omega) (by omega), eqo _ _ (by omega) (by omega), eqo _ _ (by omega) (by omega)⟩) (fun i hi f hf => ?_) (fun p hp => ⟨eqo _ _ (by omega) (by omega), eqo _ _ (by omega) (by omega), eqo _ _ (by omega) (by omega)⟩)
        rw [remA_J hc hi, remA_J hc hi, go _ _ (by omega), Zo]
        split <;> omega
    · rw [cnt_of (c := c) (by rw [strikeA_0 (by omega)]; exact h5) hc]
      exact (h.strike hk hx (by assumption)).mono (by omega)
  · rw [cnt_of (c := c) (by rw [aBack_o k10 hh (by omega) (by omega) (by omega)]; exact h5) hc]
    exact h.back hk hpk hT
end IND
