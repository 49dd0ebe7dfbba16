/-! The text: a part as the class reads it and as the reference reads it. -/
section FOP
variable {cd : Nat → Nat} {b a : Nat} {s : Nat → Int32}
theorem num_one {hi : Nat} (hh : hi ≤ 4) {x : Nat × Nat} (h : num cd b 0 hi a = some x) : a < b ∧ 48 ≤ cd a ∧ cd a ≤ 48 + hi ∧ x = (cd a - 48, a + 1) := by
  unfold num at h
  have ht : topN hi = 48 + hi := by unfold topN; rw [if_neg (by omega)]
  rw [ht] at h
  split at h
  · rename_i q
    cases h
    refine ⟨q.1, by omega, q.2.2, ?_⟩
    cases e : b - (a + 1) with
    | zero => rfl
    | succ f =>
      unfold numL
      rw [if_neg (by omega)]
  · cases h
theorem num_no {lo hi : Nat} (h : num cd b lo hi a = none) (ha : a < b) : ¬ (48 + lo ≤ cd a ∧ cd a ≤ topN hi) := by
  unfold num at h
  split at h
  · cases h
  · rename_i q
    exact fun w => q ⟨ha, w⟩
theorem num_first {lo hi : Nat} {x : Nat × Nat} (h : num cd b lo hi a = some x) : a < b ∧ 48 + lo ≤ cd a ∧ cd a ≤ topN hi ∧ x = numL cd hi (b - (a + 1)) (cd a - 48) (a + 1) := by
  unfold num at h
  split at h
  · rename_i q
    cases h
    exact ⟨q.1, q.2.1, q.2.2, rfl⟩
  · cases h
theorem eqC {c n : Nat} (hc : c ≤ 126) (hn : n ≤ 126) : decide (nI c = nI n) = decide (c = n) := by
  by_cases z : c = n
  · rw [decide_eq_true z, decide_eq_true ((nI_lit33 hc hn).mpr z)]
  · rw [decide_eq_false z, decide_eq_false (fun w => z ((nI_lit33 hc hn).mp w))]
theorem nC_ne {c n : Nat} (hc : c ≤ 126) (hn : n ≤ 126) (h : c ≠ n) : ¬ nI c = nI n := fun w => h ((nI_lit33 hc hn).mp w)
theorem endC_59 {c : Nat} (h : c = 59) : endC s (nI c) = uS s 3 0 := by
  unfold endC
  rw [if_neg (by rw [h]; decide)]
  rfl
theorem endC_33 {c : Nat} (h : c = 33) : endC s (nI c) = uS (uS s 8 1) 3 8 ∧ endOk (nI c) = true := by
  unfold endC endOk
  have : nI c = 33 := by rw [h]; rfl
  rw [if_pos this, if_pos this]
  exact ⟨rfl, rfl⟩
theorem endOk_n {c : Nat} (hc : c ≤ 126) (h : c ≠ 33) : endOk (nI c) = decide (c = 59) := by
  unfold endOk
  rw [if_neg (show ¬ nI c = 33 from nC_ne (n := 33) hc (by omega) h), show (59 : Int32) = nI 59 from rfl, eqC hc (by omega)]
/-- the first digit of the pieces, where there is none -/
theorem fol_0n (hc : ∀ i, i < b → 33 ≤ cd i ∧ cd i ≤ 126) (h3 : s 3 = 0) (h : num cd b 1 40 a = none) (ha : a < b) : okC s (nI (cd a)) = false := by
  have hca := hc a ha
  have := num_no h ha
  rw [show topN 40 = 57 from rfl] at this
  rw [okC_0 h3]
  by_cases z : 48 ≤ cd a ∧ cd a ≤ 57
  · have e : cd a = 48 := by omega
    rw [dgt_d z.1 z.2, e]; rfl
  · rw [dgt_n z hca.2]; rfl
/-- the pieces -/
theorem fol_0 (hc : ∀ i, i < b → 33 ≤ cd i ∧ cd i ≤ 126) (h3 : s 3 = 0) {x : Nat × Nat} (h : num cd b 1 40 a = some x) : ∃ s', Steps cd a s x.2 s' ∧ s' 3 = 1 ∧ s' 4 = nI x.1 ∧ s' 7 = nI 9999 ∧ s' 8 = nI 0 ∧ 1 ≤ x.1 ∧ x.1 ≤ 40 ∧ (x.2 < b → cd x.2 ≠ 100 → okC s' (nI (cd x.2)) = false) := by
  obtain ⟨ha, h1, h2, rfl⟩ := num_first h
  rw [show topN 40 = 57 from rfl] at h2
  have hca := hc a ha
  have hd := dgt_d (c := cd a) (by omega) h2
  have ok : okC s (nI (cd a)) = true := by
    rw [okC_0 h3, hd]
    have : ¬ nI (cd a - 48) ≤ 0 := fun w => by have := (nI_leI (b := 0) (by omega) (by omega)).mp w; omega
    simp [this]
  have en := nxt_0 (x := nI (cd a)) h3
  rw [hd] at en
  obtain ⟨s', k1, k2, k3, k4, k5, k6, k7⟩ := fol_pieces hc (b - (a + 1)) (cd a - 48) (a + 1) (nxt s (nI (cd a))) (by omega) (by rw [en, uS_s]) (by rw [en, uS_o (by omega), uS_o (by omega), uS_o (by omega), uS_s]) (by omega) (by omega)
  have hx := numL_le (cd := cd) (hi := 40) (f := b - (a + 1)) (v := cd a - 48) (a := a + 1)
  generalize numL cd 40 (b - (a + 1)) (cd a - 48) (a + 1) = x at k1 k3 k5 k6 k7 hx ⊢
  refine ⟨s', (Steps.one ok (by omega)).tr k1, k2, k3, ?_, ?_, k5, k6, fun l1 l2 => ?_⟩
  · rw [k4 7 (by omega), en, uS_o (by omega), uS_o (by omega), uS_s]; rfl
  · rw [k4 8 (by omega), en, uS_o (by omega), uS_s]; rfl
  · have hcx := hc x.2 l1
    have k7 := k7 l1
    rw [okC_1 k2, if_neg (show ¬ nI (cd x.2) = 100 from nC_ne (n := 100) hcx.2 (by omega) l2)]
    by_cases z : 48 ≤ cd x.2 ∧ cd x.2 ≤ 57
    · rw [dgt_d z.1 z.2, if_neg (nI_n1 (by omega)), k3, nI_dec]
      have : nI 40 < nI (10 * x.1 + (cd x.2 - 48)) := (nI_ltI (by omega) (by omega)).mpr (by omega)
      rw [show (40 : Int32) = nI 40 from rfl, decide_eq_true this]; rfl
    · rw [dgt_n z hcx.2, if_pos rfl]
/-- one digit -/
theorem dg_1 (hc : ∀ i, i < b → 33 ≤ cd i ∧ cd i ≤ 126) {hi : Nat} (hh : hi ≤ 4) (ha : a < b) : (if dgt (nI (cd a)) = -1 then false else !decide (nI (hi + 1) ≤ dgt (nI (cd a)))) = decide (48 ≤ cd a ∧ cd a ≤ 48 + hi) := by
  have hca := hc a ha
  by_cases z : 48 ≤ cd a ∧ cd a ≤ 57
  · rw [dgt_d z.1 z.2, if_neg (nI_n1 (by omega))]
    by_cases y : cd a ≤ 48 + hi
    · rw [decide_eq_true (show 48 ≤ cd a ∧ cd a ≤ 48 + hi from ⟨z.1, y⟩), decide_eq_false (fun w => by have := (nI_leI (by omega) (by omega)).mp w; omega)]; rfl
    · rw [decide_eq_false (show ¬ (48 ≤ cd a ∧ cd a ≤ 48 + hi) from fun w => y w.2), decide_eq_true ((nI_leI (by omega) (by omega)).mpr (by omega))]; rfl
  · rw [dgt_n z hca.2, if_pos rfl, decide_eq_false (by omega)]
theorem fol_2n (hc : ∀ i, i < b → 33 ≤ cd i ∧ cd i ≤ 126) (h3 : s 3 = 2) (h : num cd b 0 4 a = none) (ha : a < b) : okC s (nI (cd a)) = false := by
  have := num_no h ha
  rw [show topN 4 = 52 from rfl] at this
  rw [okC_2 h3, show (5 : Int32) = nI (4 + 1) from rfl, dg_1 hc (by omega) ha, decide_eq_false (by omega)]
theorem fol_2 (hc : ∀ i, i < b → 33 ≤ cd i ∧ cd i ≤ 126) (h3 : s 3 = 2) {y : Nat × Nat} (h : num cd b 0 4 a = some y) : Steps cd a s y.2 (uS (uS s 5 (nI y.1)) 3 3) ∧ y.2 = a + 1 ∧ y.1 ≤ 4 := by
  obtain ⟨ha, h1, h2, rfl⟩ := num_one (by omega) h
  have en := nxt_2 (x := nI (cd a)) h3
  rw [dgt_d h1 (by omega)] at en
  refine ⟨?_, rfl, (by show cd a - 48 ≤ 4; omega)⟩
  show Steps cd a s (a + 1) (uS (uS s 5 (nI (cd a - 48))) 3 3)
  rw [← en]
  refine Steps.one ?_ (by omega)
  rw [okC_2 h3, show (5 : Int32) = nI (4 + 1) from rfl, dg_1 hc (by omega) ha, decide_eq_true (by omega)]
theorem fol_4n (hc : ∀ i, i < b → 33 ≤ cd i ∧ cd i ≤ 126) (h3 : s 3 = 4) (h : num cd b 0 3 a = none) (ha : a < b) : okC s (nI (cd a)) = false := by
  have := num_no h ha
  rw [show topN 3 = 51 from rfl] at this
  rw [okC_4 h3, show (4 : Int32) = nI (3 + 1) from rfl, dg_1 hc (by omega) ha, decide_eq_false (by omega)]
theorem fol_4 (hc : ∀ i, i < b → 33 ≤ cd i ∧ cd i ≤ 126) (h3 : s 3 = 4) {y : Nat × Nat} (h : num cd b 0 3 a = some y) : Steps cd a s y.2 (uS (uS s 6 (nI y.1)) 3 5) ∧ y.2 = a + 1 ∧ y.1 ≤ 3 := by
  obtain ⟨ha, h1, h2, rfl⟩ := num_one (by omega) h
  have en := nxt_4 (x := nI (cd a)) h3
  rw [dgt_d h1 (by omega)] at en
  refine ⟨?_, rfl, (by show cd a - 48 ≤ 3; omega)⟩
  show Steps cd a s (a + 1) (uS (uS s 6 (nI (cd a - 48))) 3 5)
  rw [← en]
  refine Steps.one ?_ (by omega)
  rw [okC_4 h3, show (4 : Int32) = nI (3 + 1) from rfl, dg_1 hc (by omega) ha, decide_eq_true (by omega)]
theorem fol_6n (hc : ∀ i, i < b → 33 ≤ cd i ∧ cd i ≤ 126) (h3 : s 3 = 6) (h : num cd b 0 9999 a = none) (ha : a < b) : okC s (nI (cd a)) = false := by
  have := num_no h ha
  rw [show topN 9999 = 57 from rfl] at this
  rw [okC_6 h3, dgt_n (by omega) (hc a ha).2]; rfl
theorem fol_6 (hc : ∀ i, i < b → 33 ≤ cd i ∧ cd i ≤ 126) (h3 : s 3 = 6) {u : Nat × Nat} (h : num cd b 0 9999 a = some u) : ∃ s', Steps cd a s u.2 s' ∧ s' 3 = 7 ∧ s' 7 = nI u.1 ∧ (∀ k, k ≠ 3 → k ≠ 7 → s' k = s k) ∧ u.1 ≤ 9999 ∧ (u.2 < b → okC s' (nI (cd u.2)) = (if cd u.2 = 33 then true else decide (cd u.2 = 59)) ∧ (cd u.2 = 33 ∨ cd u.2 = 59 → nxt s' (nI (cd u.2)) = endC s' (nI (cd u.2)))) := by
  obtain ⟨ha, h1, h2, rfl⟩ := num_first h
  rw [show topN 9999 = 57 from rfl] at h2
  have hd := dgt_d (c := cd a) (by omega) h2
  have ok : okC s (nI (cd a)) = true := by
    rw [okC_6 h3, hd, decide_eq_false (nI_n1 (by omega))]; rfl
  have en := nxt_6 (x := nI (cd a)) h3
  rw [hd] at en
  obtain ⟨s', k1, k2, k3, k4, k6, k7⟩ := fol_due hc (b - (a + 1)) (cd a - 48) (a + 1) (nxt s (nI (cd a))) (by omega) (by rw [en, uS_s]) (by rw [en, uS_o (by omega), uS_s]) (by omega)
  generalize numL cd 9999 (b - (a + 1)) (cd a - 48) (a + 1) = x at k1 k3 k6 k7 ⊢
  refine ⟨s', (Steps.one ok (by omega)).tr k1, k2, k3, fun k w1 w2 => by rw [k4 k w2, en, uS_o w1, uS_o w2], k6, fun l1 => ?_⟩
  have hcx := hc x.2 l1
  have k7 := k7 l1
  by_cases z : 48 ≤ cd x.2 ∧ cd x.2 ≤ 57
  · refine ⟨?_, fun w => by omega⟩
    rw [okC_7 k2, dgt_d z.1 z.2, if_neg (nI_n1 (by omega)), if_neg (show ¬ cd x.2 = 33 by omega), decide_eq_false (show ¬ cd x.2 = 59 by omega), k3]
    by_cases y : x.1 = 0
    · rw [if_pos (show nI x.1 = 0 by rw [y]; rfl)]
    · rw [if_neg (show ¬ nI x.1 = 0 from fun w => y ((nI_eq (b := 0) (by omega) (by omega)).mp w)), nI_dec, show (9999 : Int32) = nI 9999 from rfl, decide_eq_true ((nI_ltI (by omega) (by omega)).mpr (by omega))]; rfl
  · refine ⟨?_, fun w => by rw [nxt_7 k2, dgt_n z hcx.2, if_pos rfl]⟩
    rw [okC_7 k2, dgt_n z hcx.2, if_pos rfl]
    by_cases y : cd x.2 = 33
    · rw [if_pos y, (endC_33 (s := s') y).2]
    · rw [if_neg y, endOk_n hcx.2 y]
theorem fol (hc : ∀ i, i < b → 33 ≤ cd i ∧ cd i ≤ 126) (ha : a ≤ b) (h3 : s 3 = 0) :
    (∀ a', prt cd b a = (a', none) → ∃ s', Steps cd a s a' s' ∧ a' ≤ b ∧ (a' < b → okC s' (nI (cd a')) = false) ∧ fin3 s' = false) ∧
    (∀ a' p d h u z, prt cd b a = (a', some (p, d, h, u, z)) → ∃ s', Steps cd a s a' s' ∧ a + 5 ≤ a' ∧ a' ≤ b ∧ fin3 s' = true ∧ s' 4 = nI p ∧ s' 5 = nI d ∧ s' 6 = nI h ∧ s' 7 = nI u ∧ s' 8 = nI z ∧ (1 ≤ p ∧ p ≤ 40 ∧ d ≤ 4 ∧ h ≤ 3 ∧ u ≤ 9999 ∧ z ≤ 1) ∧ (a' < b → okC s' (nI (cd a')) = decide (cd a' = 59)) ∧ (a' < b → cd a' = 59 → nxt s' (nI (cd a')) = uS s' 3 0)) := by
  have nofin : ∀ (s' : Nat → Int32), s' 3 = 0 ∨ s' 3 = 1 ∨ s' 3 = 2 ∨ s' 3 = 3 ∨ s' 3 = 4 ∨ s' 3 = 6 → fin3 s' = false := fun s' e => by
    unfold fin3
    rcases e with e | e | e | e | e | e <;> rw [e] <;> decide
  have isfin : ∀ (s' : Nat → Int32), s' 3 = 5 ∨ s' 3 = 7 ∨ s' 3 = 8 → fin3 s' = true := fun s' e => by
    unfold fin3
    rcases e with e | e | e <;> rw [e] <;> decide
  unfold prt
  cases ex : num cd b 1 40 a with
  | none =>
    refine ⟨fun a' e => ?_, fun a' p d h u z e => by cases e⟩
    cases e
    exact ⟨s, Steps.rf, ha, fol_0n hc h3 ex, nofin s (Or.inl h3)⟩
  | some x =>
    have lx := num_le ex
    obtain ⟨s1, i1, i2, i3, i4, i5, i6, i7, i8⟩ := fol_0 hc h3 ex
    dsimp only
    by_cases z1 : x.2 < b ∧ cd x.2 = 100
    · rw [if_pos z1]
      have t2 : Steps cd x.2 s1 (x.2 + 1) (uS s1 3 2) := by
        have e100 : nI (cd x.2) = 100 := by rw [z1.2]; rfl
        have := Steps.one (cd := cd) (i := x.2) (s := s1) (by rw [okC_1 i2, if_pos e100]) (by omega)
        rwa [nxt_1 i2, if_pos e100] at this
      have j2 := i1.tr t2
      cases ey : num cd b 0 4 (x.2 + 1) with
      | none =>
        refine ⟨fun a' e => ?_, fun a' p d h u z e => by cases e⟩
        cases e
        exact ⟨_, j2, by omega, fol_2n hc uS_s ey, nofin _ (Or.inr (Or.inr (Or.inl uS_s)))⟩
      | some y =>
        dsimp only
        obtain ⟨t3, ey2, ly⟩ := fol_2 hc (s := uS s1 3 2) uS_s ey
        have j3 := j2.tr t3
        have lly := num_le ey
        by_cases z2 : y.2 < b ∧ cd y.2 = 104
        · rw [if_pos z2]
          have t4 : Steps cd y.2 (uS (uS (uS s1 3 2) 5 (nI y.1)) 3 3) (y.2 + 1) (uS (uS (uS (uS s1 3 2) 5 (nI y.1)) 3 3) 3 4) := by
            have e104 : nI (cd y.2) = 104 := by rw [z2.2]; rfl
            have := Steps.one (cd := cd) (i := y.2) (s := uS (uS (uS s1 3 2) 5 (nI y.1)) 3 3) (by rw [okC_3 uS_s, e104]; rfl) (by omega)
            rwa [nxt_3 uS_s] at this
          have j4 := j3.tr t4
          cases ez : num cd b 0 3 (y.2 + 1) with
          | none =>
            refine ⟨fun a' e => ?_, fun a' p d h u z e => by cases e⟩
            cases e
            exact ⟨_, j4, by omega, fol_4n hc uS_s ez, nofin _ (Or.inr (Or.inr (Or.inr (Or.inr (Or.inl uS_s)))))⟩
          | some z =>
            dsimp only
            obtain ⟨t5, ez2, lz⟩ := fol_4 hc (s := uS (uS (uS (uS s1 3 2) 5 (nI y.1)) 3 3) 3 4) uS_s ez
            have j5 := j4.tr t5
            have llz := num_le ez
            have f4 : uS (uS (uS (uS (uS (uS s1 3 2) 5 (nI y.1)) 3 3) 3 4) 6 (nI z.1)) 3 5 4 = nI x.1 := by rw [uS_o (by omega), uS_o (by omega), uS_o (by omega), uS_o (by omega), uS_o (by omega), uS_o (by omega)]; exact i3
            have f5 : uS (uS (uS (uS (uS (uS s1 3 2) 5 (nI y.1)) 3 3) 3 4) 6 (nI z.1)) 3 5 5 = nI y.1 := by rw [uS_o (by omega), uS_o (by omega), uS_o (by omega), uS_o (by omega), uS_s]
            have f6 : uS (uS (uS (uS (uS (uS s1 3 2) 5 (nI y.1)) 3 3) 3 4) 6 (nI z.1)) 3 5 6 = nI z.1 := by rw [uS_o (by omega), uS_s]
            have f7 : uS (uS (uS (uS (uS (uS s1 3 2) 5 (nI y.1)) 3 3) 3 4) 6 (nI z.1)) 3 5 7 = nI 9999 := by rw [uS_o (by omega), uS_o (by omega), uS_o (by omega), uS_o (by omega), uS_o (by omega), uS_o (by omega)]; exact i4
            have f8 : uS (uS (uS (uS (uS (uS s1 3 2) 5 (nI y.1)) 3 3) 3 4) 6 (nI z.1)) 3 5 8 = nI 0 := by rw [uS_o (by omega), uS_o (by omega), uS_o (by omega), uS_o (by omega), uS_o (by omega), uS_o (by omega)]; exact i5
            have f3 : uS (uS (uS (uS (uS (uS s1 3 2) 5 (nI y.1)) 3 3) 3 4) 6 (nI z.1)) 3 5 3 = 5 := uS_s
            generalize uS (uS (uS (uS (uS (uS s1 3 2) 5 (nI y.1)) 3 3) 3 4) 6 (nI z.1)) 3 5 = s5 at j5 f3 f4 f5 f6 f7 f8
            by_cases z3 : z.2 < b ∧ cd z.2 = 64
            · rw [if_pos z3]
              have e64 : nI (cd z.2) = 64 := by rw [z3.2]; rfl
              have t6 := Steps.one (cd := cd) (i := z.2) (s := s5) (by rw [okC_5 f3, if_pos e64]) (by omega)
              rw [nxt_5 f3, if_pos e64] at t6
              have j6 := j5.tr t6
              cases eu : num cd b 0 9999 (z.2 + 1) with
              | none =>
                refine ⟨fun a' e => ?_, fun a' p d h u z e => by cases e⟩
                cases e
                exact ⟨_, j6, by omega, fol_6n hc uS_s eu, nofin _ (Or.inr (Or.inr (Or.inr (Or.inr (Or.inr uS_s)))))⟩
              | some u =>
                dsimp only
                obtain ⟨s7, k1, k2, k3, k4, k5, k6⟩ := fol_6 hc (s := uS s5 3 6) uS_s eu
                have llu := num_le eu
                have g4 : s7 4 = nI x.1 := by rw [k4 4 (by omega) (by omega), uS_o (by omega)]; exact f4
                have g5 : s7 5 = nI y.1 := by rw [k4 5 (by omega) (by omega), uS_o (by omega)]; exact f5
                have g6 : s7 6 = nI z.1 := by rw [k4 6 (by omega) (by omega), uS_o (by omega)]; exact f6
                have g8 : s7 8 = nI 0 := by rw [k4 8 (by omega) (by omega), uS_o (by omega)]; exact f8
                have j7 := j6.tr k1
                by_cases z4 : u.2 < b ∧ cd u.2 = 33
                · rw [if_pos z4]
                  refine ⟨fun a' e => (by cases e), fun a' p d h u1 zz e => ?_⟩
                  cases e
                  have k6 := k6 z4.1
                  have t8 := Steps.one (cd := cd) (i := u.2) (s := s7) (by rw [k6.1, if_pos z4.2]) (by omega)
                  rw [k6.2 (Or.inl z4.2), (endC_33 z4.2).1] at t8
                  have e3 : uS (uS s7 8 1) 3 8 3 = 8 := uS_s
                  refine ⟨_, j7.tr t8, by omega, by omega, isfin _ (Or.inr (Or.inr e3)), ?_, ?_, ?_, ?_, ?_, ⟨i6, i7, ly, lz, k5, by omega⟩, fun l => ?_, fun l1 l2 => ?_⟩
                  · rw [uS_o (by omega), uS_o (by omega)]; exact g4
                  · rw [uS_o (by omega), uS_o (by omega)]; exact g5
                  · rw [uS_o (by omega), uS_o (by omega)]; exact g6
                  · rw [uS_o (by omega), uS_o (by omega)]; exact k3
                  · rw [uS_o (by omega), uS_s]; rfl
                  · rw [okC_8 e3, show (59 : Int32) = nI 59 from rfl, eqC (hc _ l).2 (by omega)]
                  · rw [nxt_8 e3]
                · rw [if_neg z4]
                  refine ⟨fun a' e => (by cases e), fun a' p d h u1 zz e => ?_⟩
                  cases e
                  refine ⟨s7, j7, by omega, by omega, isfin _ (Or.inr (Or.inl k2)), g4, g5, g6, k3, g8, ⟨i6, i7, ly, lz, k5, by omega⟩, fun l => ?_, fun l1 l2 => ?_⟩
                  · rw [(k6 l).1, if_neg (fun w => z4 ⟨l, w⟩)]
                  · rw [(k6 l1).2 (Or.inr l2), endC_59 l2]
            · rw [if_neg z3]
              by_cases z4 : z.2 < b ∧ cd z.2 = 33
              · rw [if_pos z4]
                refine ⟨fun a' e => (by cases e), fun a' p d h u1 zz e => ?_⟩
                cases e
                have n64 : ¬ nI (cd z.2) = 64 := by rw [z4.2]; decide
                have t8 := Steps.one (cd := cd) (i := z.2) (s := s5) (by rw [okC_5 f3, if_neg n64, (endC_33 (s := s5) z4.2).2]) (by omega)
                rw [nxt_5 f3, if_neg n64, (endC_33 z4.2).1] at t8
                have e3 : uS (uS s5 8 1) 3 8 3 = 8 := uS_s
                refine ⟨_, j5.tr t8, by omega, by omega, isfin _ (Or.inr (Or.inr e3)), ?_, ?_, ?_, ?_, ?_, ⟨i6, i7, ly, lz, by omega, by omega⟩, fun l => ?_, fun l1 l2 => ?_⟩
                · rw [uS_o (by omega), uS_o (by omega)]; exact f4
                · rw [uS_o (by omega), uS_o (by omega)]; exact f5
                · rw [uS_o (by omega), uS_o (by omega)]; exact f6
                · rw [uS_o (by omega), uS_o (by omega)]; exact f7
                · rw [uS_o (by omega), uS_s]; rfl
                · rw [okC_8 e3, show (59 : Int32) = nI 59 from rfl, eqC (hc _ l).2 (by omega)]
                · rw [nxt_8 e3]
              · rw [if_neg z4]
                refine ⟨fun a' e => (by cases e), fun a' p d h u1 zz e => ?_⟩
                cases e
                have n64 : z.2 < b → ¬ nI (cd z.2) = 64 := fun l w => z3 ⟨l, (nI_lit33 (n := 64) (hc _ l).2 (by omega)).mp w⟩
                refine ⟨s5, j5, by omega, by omega, isfin _ (Or.inl f3), f4, f5, f6, f7, f8, ⟨i6, i7, ly, lz, by omega, by omega⟩, fun l => ?_, fun l1 l2 => ?_⟩
                · rw [okC_5 f3, if_neg (n64 l), endOk_n (hc _ l).2 (fun w => z4 ⟨l, w⟩)]
                · rw [nxt_5 f3, if_neg (n64 l1), endC_59 l2]
        · rw [if_neg z2]
          refine ⟨fun a' e => ?_, fun a' p d h u z e => by cases e⟩
          cases e
          refine ⟨_, j3, by omega, fun l => ?_, nofin _ (Or.inr (Or.inr (Or.inr (Or.inl uS_s))))⟩
          rw [okC_3 uS_s, show (104 : Int32) = nI 104 from rfl, eqC (hc _ l).2 (by omega), decide_eq_false (fun w => z2 ⟨l, w⟩)]
    · rw [if_neg z1]
      refine ⟨fun a' e => ?_, fun a' p d h u z e => by cases e⟩
      cases e
      exact ⟨s1, i1, by omega, fun l => i8 l (fun w => z1 ⟨l, w⟩), nofin _ (Or.inr (Or.inl i2))⟩
end FOP
