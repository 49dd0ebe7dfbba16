/-! An act on a copy does the same. -/
def EQ (o o' : Int32 × Ab) : Prop := o.1 = o'.1 ∧ Cq o.2 o'.2 (cnt o'.2)
section EQA
variable {E A : Ab} {N T j : Nat} {τ : Nat → Int32} {v w : Int32} {p p' : Nat}
theorem eq_no (h : Cq E A (cnt A)) : EQ (-1, E) (-1, A) := ⟨rfl, h⟩
theorem eq_up {E' A' : Ab} {x : Int32} (h : Cq E' A' (cnt A)) (hc : cnt A' = cnt A) : EQ (x, E') (x, A') := ⟨rfl, by show Cq E' A' (cnt A'); rw [hc]; exact h⟩
theorem e_stock (h : Cq E A (cnt A)) : EQ (aStock E v w) (aStock A v w) := by
  have hh := (vH_is v).2
  unfold aStock
  rw [h.h hh (by omega)]
  split
  · exact eq_up (h.up rfl) (cnt_up (by omega))
  · exact eq_no h
theorem e_range (h : Cq E A (cnt A)) : EQ (aRange E v w) (aRange A v w) :=
  eq_up ((h.up rfl).up rfl) (by rw [cnt_up (by omega), cnt_up (by omega)])
theorem e_die (h : Cq E A (cnt A)) : EQ (aDie E v w) (aDie A v w) := by
  have hd := (vD_is v).2
  unfold aDie
  rw [h.d hd (by omega)]
  split
  · exact eq_up (((h.up rfl).up rfl).up rfl) (by rw [cnt_up (by omega), cnt_up (by omega), cnt_up (by omega)])
  · exact eq_no h
theorem e_grind (h : Cq E A (cnt A)) : EQ (aGrind E v) (aGrind A v) := by
  unfold aGrind
  rw [h.ground, h.n (by omega) (by omega)]
  split
  · exact eq_up (h.up rfl) (cnt_up (by omega))
  · exact eq_no h
theorem e_set (h : Cq E A (cnt A)) : EQ (aSet E w) (aSet A w) := by
  obtain ⟨n, q, en, hn, _⟩ := sV_is w
  unfold aSet
  rw [en, nI_clamp (by omega)]
  exact eq_up (h.up rfl) (cnt_up (by omega))
theorem e_vK (h : Cq E A (cnt A)) : vK E v = vK A v := by unfold vK; rw [h.n (by omega) (by omega)]
theorem e_cancel (h : Cq E A (cnt A)) (hI : Iv A (cnt A) N T) : EQ (aCancel E v) (aCancel A v) := by
  unfold aCancel
  rw [e_vK h, h.cn, h.n (by omega) (by omega)]
  split
  · exact eq_no h
  · rename_i h0
    have hk := (vK_is v hI.1.1.1 (c_pos hI.1.1 h0) hI.1.1.2.1).2
    refine ⟨rfl, ?_⟩
    show Cq (dropA E (cnt A) (vK A v)) (dropA A (cnt A) (vK A v)) (cnt (dropA A (cnt A) (vK A v)))
    rw [drop_5, remA_cnt hI.1.1.2.1]
    exact h.drop hI.1.1 hk
theorem e_rush (h : Cq E A (cnt A)) (hI : Iv A (cnt A) N T) (okE : E 0 5 ≠ 0 → p' < cnt E ∧ srt (hasZ E (vK E v) p' (wZ w)) (cnt E)) (ok : A 0 5 ≠ 0 → p < cnt A ∧ srt (hasZ A (vK A v) p (wZ w)) (cnt A)) : EQ (aRush E v w p') (aRush A v w p) := by
  have e5 : E 0 5 = A 0 5 := h.n (by omega) (by omega)
  have hc := hI.1.1.2.1
  rw [e5, h.cn, e_vK h] at okE
  unfold aRush
  rw [e_vK h, e5]
  split
  · exact eq_no h
  · rename_i h0
    have hk := (vK_is v hI.1.1.1 (c_pos hI.1.1 h0) hI.1.1.2.1).2
    obtain ⟨hp', hs'⟩ := okE h0
    obtain ⟨hp, hs⟩ := ok h0
    have hs2 := (h.hsz (z := wZ w) hc hk hp').sy.srted hs'
    have ep : p' = p := mv_same hc hk hp' hp hs2 hs
    subst ep
    refine ⟨rfl, ?_⟩
    show Cq (hasZ E (vK A v) p' (wZ w)) (hasZ A (vK A v) p' (wZ w)) (cnt (hasZ A (vK A v) p' (wZ w)))
    rw [hasZ_cnt]
    exact h.hsz hc hk hp'
theorem e_job (h : Cq E A (cnt A)) (hI : Iv A (cnt A) N T) (okE : E 0 5 ≠ 10 → p' < cnt E + 1 ∧ srt (addQ E (cnt E) (vD v) (vH v) (1 + lo w 6) (lo (sh w 3) 400) (jZ w) p') (cnt E + 1)) (ok : A 0 5 ≠ 10 → p < cnt A + 1 ∧ srt (addQ A (cnt A) (vD v) (vH v) (1 + lo w 6) (lo (sh w 3) 400) (jZ w) p) (cnt A + 1)) : EQ (aJob E v w p') (aJob A v w p) := by
  have e5 : E 0 5 = A 0 5 := h.n (by omega) (by omega)
  rw [e5, h.cn] at okE
  unfold aJob
  rw [e5, h.cn]
  split
  · exact eq_no h
  · rename_i h0
    have hc := c_lt hI.1.1 h0
    obtain ⟨hp', hs'⟩ := okE h0
    obtain ⟨hp, hs⟩ := ok h0
    have hs2 := (h.add (d := vD v) (g := vH v) (pc := 1 + lo w 6) (u := lo (sh w 3) 400) (z := jZ w) hc hp').sy.srted hs'
    have ep : p' = p := mv_same (c := cnt A + 1) (by omega) (k := cnt A) (by omega) hp' hp hs2 hs
    subst ep
    refine ⟨rfl, ?_⟩
    show Cq (addQ E (cnt A) _ _ _ _ _ p') (addQ A (cnt A) _ _ _ _ _ p') (cnt (addQ A (cnt A) _ _ _ _ _ p'))
    rw [addQ_cnt hc]
    exact h.add hc hp'
theorem e_pass (h : Cq E A (cnt A)) (hI : Iv A (cnt A) N T) (hT : T < 2 ^ 29) : EQ (aPass E w) (aPass A w) := by
  obtain ⟨n, en, _, hn⟩ := pN_is w
  unfold aPass
  rw [en, nI_clamp (by omega)]
  exact ⟨rfl, h.many hI (by omega)⟩
theorem e_act (h : Cq E A (cnt A)) (kw : KW A j τ) (hj : j ≤ 100) (okE : okP E v w p') (ok : okP A v w p) : EQ (act E v w p') (act A v w p) := by
  obtain ⟨N, T, U, h1, h2, h3, hI, kv⟩ := kw
  by_cases n0 : v &&& 15 = 0
  · unfold act; rw [if_pos n0, if_pos n0]; exact e_stock h
  by_cases n1 : v &&& 15 = 1
  · unfold act; rw [if_neg n0, if_neg n0, if_pos n1, if_pos n1]; exact e_stock h
  by_cases n2 : v &&& 15 = 2
  · unfold act; rw [if_neg n0, if_neg n0, if_neg n1, if_neg n1, if_pos n2, if_pos n2]; exact e_range h
  by_cases n3 : v &&& 15 = 3
  · unfold act; rw [if_neg n0, if_neg n0, if_neg n1, if_neg n1, if_neg n2, if_neg n2, if_pos n3, if_pos n3]; exact e_die h
  by_cases n4 : v &&& 15 = 4
  · unfold act; rw [if_neg n0, if_neg n0, if_neg n1, if_neg n1, if_neg n2, if_neg n2, if_neg n3, if_neg n3, if_pos n4, if_pos n4]; exact e_grind h
  by_cases n5 : v &&& 15 = 5
  · unfold act; rw [if_neg n0, if_neg n0, if_neg n1, if_neg n1, if_neg n2, if_neg n2, if_neg n3, if_neg n3, if_neg n4, if_neg n4, if_pos n5, if_pos n5]; exact e_set h
  by_cases n6 : v &&& 15 = 6
  · unfold act; rw [if_neg n0, if_neg n0, if_neg n1, if_neg n1, if_neg n2, if_neg n2, if_neg n3, if_neg n3, if_neg n4, if_neg n4, if_neg n5, if_neg n5, if_pos n6, if_pos n6]; exact e_cancel h hI
  by_cases n7 : v &&& 15 = 7
  · unfold act; rw [if_neg n0, if_neg n0, if_neg n1, if_neg n1, if_neg n2, if_neg n2, if_neg n3, if_neg n3, if_neg n4, if_neg n4, if_neg n5, if_neg n5, if_neg n6, if_neg n6, if_pos n7, if_pos n7]; exact e_rush h hI (okE.1 n7) (ok.1 n7)
  by_cases n8 : v &&& 15 = 8
  · unfold act; rw [if_neg n0, if_neg n0, if_neg n1, if_neg n1, if_neg n2, if_neg n2, if_neg n3, if_neg n3, if_neg n4, if_neg n4, if_neg n5, if_neg n5, if_neg n6, if_neg n6, if_neg n7, if_neg n7, if_pos n8, if_pos n8]; exact e_job h hI (okE.2 (Or.inl n8)) (ok.2 (Or.inl n8))
  by_cases n9 : v &&& 15 = 9
  · unfold act; rw [if_neg n0, if_neg n0, if_neg n1, if_neg n1, if_neg n2, if_neg n2, if_neg n3, if_neg n3, if_neg n4, if_neg n4, if_neg n5, if_neg n5, if_neg n6, if_neg n6, if_neg n7, if_neg n7, if_neg n8, if_neg n8, if_pos n9, if_pos n9]; exact e_job h hI (okE.2 (Or.inr (Or.inl n9))) (ok.2 (Or.inr (Or.inl n9)))
  by_cases n10 : v &&& 15 = 10
  · unfold act; rw [if_neg n0, if_neg n0, if_neg n1, if_neg n1, if_neg n2, if_neg n2, if_neg n3, if_neg n3, if_neg n4, if_neg n4, if_neg n5, if_neg n5, if_neg n6, if_neg n6, if_neg n7, if_neg n7, if_neg n8, if_neg n8, if_neg n9, if_neg n9, if_pos n10, if_pos n10]; exact e_job h hI (okE.2 (Or.inr (Or.inr n10))) (ok.2 (Or.inr (Or.inr n10)))
  · unfold act; rw [if_neg n0, if_neg n0, if_neg n1, if_neg n1, if_neg n2, if_neg n2, if_neg n3, if_neg n3, if_neg n4, if_neg n4, if_neg n5, if_neg n5, if_neg n6, if_neg n6, if_neg n7, if_neg n7, if_neg n8, if_neg n8, if_neg n9, if_neg n9, if_neg n10, if_neg n10]; exact e_pass h hI (by omega)
end EQA
