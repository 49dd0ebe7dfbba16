/-! What is kept: the dies are tended, a minute passes. -/
section INE
variable {A A' : Ab} {c N T : Nat}
/-- one die is ground from now on -/
theorem Iv.toGo (h : Iv A c N T) {d g : Nat} (hd : d < 5) (hg : g ≤ 30) (ho : ∀ e, e < 5 → e ≠ d → A (7 + e) 3 ≤ 0) : Iv (aU A (7 + d) 3 (nI g)) c N T := by
  have hc := h.1.1.2.1
  obtain ⟨j, e, l, b, di, s, t⟩ := h
  have o : ∀ r f, ¬ (r = 7 + d ∧ f = 3) → aU A (7 + d) 3 (nI g) r f = A r f := fun r f h1 => up_o h1
  refine ⟨j.congr (fun f hf => o _ _ (by omega)) (fun i hi f hf => o _ _ (by omega)), fun i hi => ?_, fun i hi => ?_, ⟨fun r hr => ?_, fun r hr => ?_⟩, ⟨fun i hi => ?_, fun i i' hi hi' h1 h2 => ?_⟩, ?_, fun i hi => ?_⟩
  · rw [o _ _ (by omega)]
    have := bc_congr (A' := aU A (7 + d) 3 (nI g)) (A := A) (k := i) (fun p hp => o _ _ (by omega)) (o _ _ (by omega))
    exact (e.bc hi).trans (by rw [← this]; rfl)
  · obtain ⟨p, m, e1, e2, e3, e4⟩ := l i hi
    exact ⟨p, m, (o _ _ (by omega)).trans e1, (o _ _ (by omega)).trans e2, e3, by rw [bc_congr (A := A) (fun p hp => o _ _ (by omega)) (o _ _ (by omega))]; exact e4⟩
  · rw [o _ _ (by omega), o _ _ (by omega)]
    rcases b.1 r hr with y | ⟨⟨k, hk, y⟩, w⟩
    · exact Or.inl y
    · exact Or.inr ⟨⟨k, hk, by rw [o _ _ (by omega)]; exact y⟩, w⟩
  · rw [o _ _ (by omega)]; exact b.2 r hr
  · obtain ⟨b1, l1, g1, x1, x2, x3, x4, x5, x6, x7⟩ := di.1 i hi
    rw [o _ 0 (by omega), o _ 1 (by omega)]
    by_cases z : i = d
    · subst z; rw [up_s]; exact ⟨b1, l1, g, x1, x2, x3, x4, x5, rfl, hg⟩
    · rw [o _ _ (by omega)]; exact ⟨b1, l1, g1, x1, x2, x3, x4, x5, x6, x7⟩
  · by_cases z : i = d
    · by_cases z' : i' = d
      · omega
      · rw [o _ _ (by omega)] at h2
        exact absurd h2 (Int32.not_lt.mpr (ho i' hi' z'))
    · rw [o _ _ (by omega)] at h1
      exact absurd h1 (Int32.not_lt.mpr (ho i hi z))
  · unfold iS
    rw [o _ _ (by omega), o _ _ (by omega), o _ _ (by omega), o _ _ (by omega)]
    exact s
  · rw [o _ _ (by omega), o _ _ (by omega), o _ _ (by omega)]
    exact t i hi
/-- a die's wear, limit and grinds -/
theorem Iv.limit (h : Iv A c N T) {d l' : Nat} (hd : d < 5) (hl : l' ≤ 300) {w g : Int32} : Iv (aU (aU (aU A (7 + d) 2 w) (7 + d) 1 (nI l')) (7 + d) 5 g) c N T := by
  have hc := h.1.1.2.1
  obtain ⟨j, e, l, b, di, s, t⟩ := h
  have o : ∀ r f, ¬ (r = 7 + d ∧ (f = 2 ∨ f = 1 ∨ f = 5)) → aU (aU (aU A (7 + d) 2 w) (7 + d) 1 (nI l')) (7 + d) 5 g r f = A r f := fun r f h1 => by rw [up_o (by omega), up_o (by omega), up_o (by omega)]
  have o1 : aU (aU (aU A (7 + d) 2 w) (7 + d) 1 (nI l')) (7 + d) 5 g (7 + d) 1 = nI l' := by rw [up_f (by omega), up_s]
  refine ⟨j.congr (fun f hf => o _ _ (by omega)) (fun i hi f hf => o _ _ (by omega)), fun i hi => ?_, fun i hi => ?_, ⟨fun r hr => ?_, fun r hr => ?_⟩, ⟨fun i hi => ?_, fun i i' hi hi' h1 h2 => ?_⟩, ?_, fun i hi => ?_⟩
  · rw [o _ _ (by omega)]
    have := bc_congr (A' := aU (aU (aU A (7 + d) 2 w) (7 + d) 1 (nI l')) (7 + d) 5 g) (A := A) (k := i) (fun p hp => o _ _ (by omega)) (o _ _ (by omega))
    exact (e.bc hi).trans (by rw [← this]; rfl)
  · obtain ⟨p, m, e1, e2, e3, e4⟩ := l i hi
    exact ⟨p, m, (o _ _ (by omega)).trans e1, (o _ _ (by omega)).trans e2, e3, by rw [bc_congr (A := A) (fun p hp => o _ _ (by omega)) (o _ _ (by omega))]; exact e4⟩
  · rw [o _ _ (by omega), o _ _ (by omega)]
    rcases b.1 r hr with y | ⟨⟨k, hk, y⟩, w⟩
    · exact Or.inl y
    · exact Or.inr ⟨⟨k, hk, by rw [o _ _ (by omega)]; exact y⟩, w⟩
  · rw [o _ _ (by omega)]; exact b.2 r hr
  · obtain ⟨b1, l1, g1, x1, x2, x3, x4, x5, x6, x7⟩ := di.1 i hi
    rw [o _ 0 (by omega), o _ 3 (by omega)]
    by_cases z : i = d
    · subst z; rw [o1]; exact ⟨b1, l', g1, x1, x2, x3, rfl, hl, x6, x7⟩
    · rw [o _ _ (by omega)]; exact ⟨b1, l1, g1, x1, x2, x3, x4, x5, x6, x7⟩
  · rw [o _ _ (by omega)] at h1 h2
    exact di.2 i i' hi hi' h1 h2
  · unfold iS
    rw [o _ _ (by omega), o _ _ (by omega), o _ _ (by omega), o _ _ (by omega)]
    exact s
  · rw [o _ _ (by omega), o _ _ (by omega), o _ _ (by omega)]
    exact t i hi
theorem Iv.worn (h : Iv A c N T) (hg : ∀ d, d < 5 → A (7 + d) 3 ≤ 0) : Iv (tendW A) c N T := by
  unfold tendW
  cases q : wornA A with
  | none => exact h
  | some d =>
    obtain ⟨w, x, r, g, -, -, -, -, -, -, eg, -, hg30⟩ := h.2.2.2.2.2.1
    have hd := (fst9_some q).2.1
    show Iv (aU A (7 + d) 3 (A 0 10)) c N T
    rw [eg]
    exact h.toGo (by omega) hg30 (fun e he _ => hg e he)
theorem Iv.tend (h : Iv A c N T) : Iv (aTend A) c N T := by
  unfold aTend
  cases q : groundA A with
  | none => exact h.worn fun d hd => groundA_none q hd
  | some d =>
    obtain ⟨-, hd, -, -⟩ := fst9_some q
    have hd : d < 5 := by omega
    have hpos := (groundA_iff h.2.2.2.2.1 hd).mp q
    obtain ⟨b1, l1, g1, x1, x2, x3, x4, x5, x6, x7⟩ := h.2.2.2.2.1.1 d hd
    have oth : ∀ e, e < 5 → e ≠ d → A (7 + e) 3 ≤ 0 := fun e he hne => Int32.not_lt.mp fun z => hne (h.2.2.2.2.1.2 e d he hd z hpos)
    have g0 : g1 ≠ 0 := fun z => by rw [x6, z] at hpos; exact absurd hpos (by decide)
    have eg : A (7 + d) 3 - 1 = nI (g1 - 1) := by rw [x6, show g1 = (g1 - 1) + 1 by omega, nI_pred]; rfl
    have hgr : Iv (grindA A d) c N T := by
      unfold grindA
      have h1 := h.toGo (g := g1 - 1) hd (by omega) oth
      rw [← eg] at h1
      split
      · exact h1
      · have hl : ∃ l', (if 10 < A (7 + d) 1 - 5 then A (7 + d) 1 - 5 else 10) = nI l' ∧ l' ≤ 300 := by
          rw [x4]
          have t1 := nI_sub_toInt (a := l1) (b := 5) (by omega) (by omega)
          rw [show (5 : Int32) = nI 5 from rfl]
          by_cases y : 10 < nI l1 - nI 5
          · have y' := Int32.lt_iff_toInt_lt.mp y
            rw [t1, show (10 : Int32).toInt = 10 from rfl] at y'
            refine ⟨l1 - 5, ?_, by omega⟩
            rw [if_pos y, ← Int32.toInt_inj, nI_toInt (by omega), t1]
            omega
          · exact ⟨10, if_neg y, by omega⟩
        obtain ⟨l', el, hl'⟩ := hl
        rw [el]
        exact h1.limit hd hl'
    show Iv (if A (7 + d) 3 - 1 ≤ 0 then tendW (grindA A d) else grindA A d) c N T
    by_cases y : A (7 + d) 3 - 1 ≤ 0
    · rw [if_pos y]
      refine hgr.worn fun e he => ?_
      unfold grindA
      rw [if_neg (Int32.not_lt.mpr y)]
      by_cases z : e = d
      · subst z
        rw [up_f (by omega), up_f (by omega), up_f (by omega), up_s]; exact y
      · rw [up_r (by omega), up_r (by omega), up_r (by omega), up_r (by omega)]; exact oth e he z
    · rw [if_neg y]; exact hgr
theorem Iv.okM (h : Iv A c N T) : okM A c := ⟨h.1.1, by
  rcases h.2.2.2.1.1 6 (by omega) with y | ⟨⟨k, hk, y⟩, -⟩
  · exact Or.inl y
  · exact Or.inr ⟨k, hk, y.symm⟩⟩
theorem Iv.cn (h : Iv A c N T) : cnt A = c := h.1.1.cn
theorem Iv.press (h : Iv A c N T) (hT : T < 2 ^ 30) : Iv (aPress A c) (cnt (aPress A c)) N (T + 1) := by
  unfold aPress
  split
  · rename_i he
    have := (h.load he).mono (T' := T + 1) (by omega)
    rw [this.cn]; exact this
  · cases q : placeA A c (A 30 0) with
    | none =>
      have := h.mono (T' := T + 1) (by omega)
      show Iv A (cnt A) N (T + 1)
      rw [this.cn]; exact this
    | some k =>
      obtain ⟨-, hk, e, -⟩ := fst9_some q
      simp only [decide_eq_true_eq] at e
      exact h.work (by omega) e.symm hT
theorem Iv.minute (h : Iv A c N T) (hT : T < 2 ^ 30) : Iv (aMinute A) (cnt (aMinute A)) N (T + 1) := by
  unfold aMinute
  have h1 := h.tick.warm.charge.press hT
  rw [h.cn]
  have h2 := h1.tend
  rw [h2.cn]; exact h2
end INE
