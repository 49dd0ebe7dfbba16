/-! The text: all its parts. -/
/-- all parts from a on, with fuel: where it ends, how many are told, what is told, whether it is well -/
def prs (cd : Nat → Nat) (b : Nat) : Nat → Nat → Nat → (Nat → Int32) → Nat × Nat × (Nat → Int32) × Bool
  | 0, a, t, g => (a, t, g, false)
  | f + 1, a, t, g => match prt cd b a with
    | (a', none) => (a', t, g, false)
    | (a', some (p, d, h, u, z)) => if a' < b then (if cd a' = 59 then prs cd b f (a' + 1) (t + 1) (told5 g t d h p u z) else (a', t + 1, told5 g t d h p u z, false)) else (a', t + 1, told5 g t d h p u z, true)
theorem told5_o {g : Nat → Int32} {t d h p u z k : Nat} (hk : k < 5 * t) : told5 g t d h p u z k = g k := by
  unfold told5
  rw [uS_o (by omega), uS_o (by omega), uS_o (by omega), uS_o (by omega), uS_o (by omega)]
theorem scan_add {q : Nat → Int32} {m : Nat} : ∀ {n i : Nat} {s : Nat → Int32}, okAll q n i s → scan q (n + m) i s = scan q m (i + n) (itr q n i s) := by
  intro n
  induction n with
  | zero => intro i s _; rw [Nat.zero_add]; rfl
  | succ n ih =>
    intro i s h
    rw [show n + 1 + m = (n + m) + 1 by omega, show i + (n + 1) = (i + 1) + n by omega]
    show (if okC s (q i) = true then scan q (n + m) (i + 1) (nxt s (q i)) else _) = _
    rw [if_pos h.1]
    exact ih h.2
section PRS
variable {cd : Nat → Nat} {b : Nat}
theorem prs_g : ∀ {f a t : Nat} {g : Nat → Int32} {k : Nat}, k < 5 * t → (prs cd b f a t g).2.2.1 k = g k := by
  intro f
  induction f with
  | zero => intro a t g k _; rfl
  | succ f ih =>
    intro a t g k hk
    unfold prs
    split
    · rfl
    · split
      · split
        · rw [ih (by omega)]; exact told5_o hk
        · exact told5_o hk
      · exact told5_o hk
/-- the class's scan comes to the same place -/
theorem prs_scan (hc : ∀ i, i < b → 33 ≤ cd i ∧ cd i ≤ 126) : ∀ {f a t : Nat} {g s : Nat → Int32}, a ≤ b → b < a + f → s 3 = 0 → (scan (fun k => nI (cd k)) (b - a) a s).1 = (prs cd b f a t g).1 ∧ ((scan (fun k => nI (cd k)) (b - a) a s).2.2 && fin3 (scan (fun k => nI (cd k)) (b - a) a s).2.1) = (prs cd b f a t g).2.2.2 ∧ (prs cd b f a t g).1 ≤ b := by
  intro f
  induction f with
  | zero => intro a t g s h1 h2 _; omega
  | succ f ih =>
    intro a t g s h1 h2 h3
    obtain ⟨F1, F2⟩ := fol (s := s) hc h1 h3
    -- how the scan goes on behind steps
    have step : ∀ {a' : Nat} {s' : Nat → Int32}, Steps cd a s a' s' → a' ≤ b → scan (fun k => nI (cd k)) (b - a) a s = scan (fun k => nI (cd k)) (b - a') a' s' := fun {a' s'} hs hb => by
      obtain ⟨n, rfl, e1, rfl, _⟩ := hs
      rw [show b - a = n + (b - (a + n)) by omega]
      exact scan_add e1
    -- a stop at a place
    have stop : ∀ {a' : Nat} {s' : Nat → Int32}, Steps cd a s a' s' → a' ≤ b → (a' < b → okC s' (nI (cd a')) = false) → (a' = b → fin3 s' = false) → (scan (fun k => nI (cd k)) (b - a) a s).1 = a' ∧ ((scan (fun k => nI (cd k)) (b - a) a s).2.2 && fin3 (scan (fun k => nI (cd k)) (b - a) a s).2.1) = false := fun {a' s'} hs hb h4 h5 => by
      rw [step hs hb]
      cases e : b - a' with
      | zero =>
        refine ⟨rfl, ?_⟩
        show (true && fin3 s') = false
        rw [h5 (by omega)]; rfl
      | succ n =>
        have h4 := h4 (by omega)
        unfold scan
        rw [if_neg (by rw [h4]; decide)]
        exact ⟨rfl, rfl⟩
    unfold prs
    split
    · rename_i a' e
      obtain ⟨s', k1, k2, k3, k4⟩ := F1 a' e
      have := stop k1 k2 k3 (fun _ => k4)
      exact ⟨this.1, this.2, k2⟩
    · rename_i a' p d h u z e
      obtain ⟨s', k1, k2, k3, k4, k5, k6, k7, k8, k9, k10, k11, k12⟩ := F2 a' p d h u z e
      split
      · rename_i l
        split
        · rename_i l2
          have ok : okC s' (nI (cd a')) = true := by rw [k11 l, decide_eq_true l2]
          have e2 : scan (fun k => nI (cd k)) (b - a) a s = scan (fun k => nI (cd k)) (b - (a' + 1)) (a' + 1) (uS s' 3 0) := by
            rw [step k1 k3, show b - a' = (b - (a' + 1)) + 1 by omega]
            show (if okC s' (nI (cd a')) = true then scan _ _ _ (nxt s' (nI (cd a'))) else _) = _
            rw [if_pos ok, k12 l l2]
          rw [e2]
          exact ih (by omega) (by omega) uS_s
        · rename_i l2
          have := stop k1 k3 (fun _ => by rw [k11 l, decide_eq_false l2]) (fun w => by omega)
          exact ⟨this.1, this.2, k3⟩
      · rename_i l
        have eb : a' = b := by omega
        subst eb
        rw [step k1 (Nat.le_refl _), Nat.sub_self]
        exact ⟨rfl, by show (true && fin3 s') = true; rw [k4]; rfl, Nat.le_refl _⟩
theorem cntN_none2 {p : Nat → Bool} {i : Nat} : ∀ {n : Nat}, (∀ k, i ≤ k → k < i + n → p k = false) → cntN p (i + n) = cntN p i := by
  intro n
  induction n with
  | zero => intro _; rfl
  | succ n ih =>
    intro h
    show cntN p (i + n) + (if p (i + n) = true then 1 else 0) = _
    rw [h (i + n) (by omega) (by omega), ih fun k h1 h2 => h k h1 (by omega)]
    rfl
theorem Steps.c59 {i j : Nat} {s s' : Nat → Int32} (h : Steps cd i s j s') : cntN (fun k => decide (nI (cd k) = 59)) j = cntN (fun k => decide (nI (cd k) = 59)) i ∨ ∃ k, i ≤ k ∧ k < j ∧ 126 < cd k := by
  obtain ⟨n, rfl, _, _, h4⟩ := h
  by_cases z : ∃ k, i ≤ k ∧ k < i + n ∧ 126 < cd k
  · exact Or.inr z
  · refine Or.inl (cntN_none2 fun k h1 h2 => ?_)
    have h5 := h4 k h1 h2
    have : ¬ 126 < cd k := fun w => z ⟨k, h1, h2, w⟩
    exact decide_eq_false fun w => h5 ((nI_lit33 (n := 59) (by omega) (by omega)).mp w)
/-- what is well told has as many parts as the class counts -/
theorem prs_many (hc : ∀ i, i < b → 33 ≤ cd i ∧ cd i ≤ 126) : ∀ {f a t : Nat} {g : Nat → Int32}, a ≤ b → b < a + f → 6 * t ≤ a → cntN (fun k => decide (nI (cd k) = 59)) a = t → (prs cd b f a t g).2.1 ≤ (b + 1) / 6 ∧ t ≤ (prs cd b f a t g).2.1 ∧ ((prs cd b f a t g).2.2.2 = true → (prs cd b f a t g).2.1 = 1 + cntN (fun k => decide (nI (cd k) = 59)) b ∧ t < (prs cd b f a t g).2.1) := by
  intro f
  induction f with
  | zero => intro a t g h1 h2 _; omega
  | succ f ih =>
    intro a t g h1 h2 h3 h4
    obtain ⟨F1, F2⟩ := fol (s := fun _ => 0) hc h1 rfl
    unfold prs
    split
    · rename_i a' e
      exact ⟨by show t ≤ (b + 1) / 6; omega, Nat.le_refl _, fun w => by cases w⟩
    · rename_i a' p d h u z e
      obtain ⟨s', k1, k2, k3, _⟩ := F2 a' p d h u z e
      have ec : cntN (fun k => decide (nI (cd k) = 59)) a' = t := by
        rcases k1.c59 with w | ⟨k, w1, w2, w3⟩
        · rw [w, h4]
        · have := hc k (by omega); omega
      split
      · rename_i l
        split
        · rename_i l2
          have := ih (a := a' + 1) (t := t + 1) (g := told5 g t d h p u z) (by omega) (by omega) (by omega) (by
            show cntN _ a' + (if decide (nI (cd a') = 59) = true then 1 else 0) = t + 1
            rw [ec, if_pos (decide_eq_true (by rw [l2]; rfl))])
          exact ⟨this.1, by omega, fun w => ⟨(this.2.2 w).1, by have := (this.2.2 w).2; omega⟩⟩
        · exact ⟨by show t + 1 ≤ (b + 1) / 6; omega, by show t ≤ t + 1; omega, fun w => by cases w⟩
      · rename_i l
        have eb : a' = b := by omega
        subst eb
        exact ⟨by show t + 1 ≤ (a' + 1) / 6; omega, by show t ≤ t + 1; omega, fun _ => ⟨by rw [ec]; show t + 1 = 1 + t; omega, by show t < t + 1; omega⟩⟩
/-- the next part of what is well told -/
theorem prs_next {f a t : Nat} {g : Nat → Int32} (h : (prs cd b (f + 1) a t g).2.2.2 = true) : ∃ a' p d h u z, prt cd b a = (a', some (p, d, h, u, z)) ∧ ((¬ a' < b ∧ (prs cd b (f + 1) a t g) = (a', t + 1, told5 g t d h p u z, true)) ∨ (a' < b ∧ cd a' = 59 ∧ prs cd b (f + 1) a t g = prs cd b f (a' + 1) (t + 1) (told5 g t d h p u z))) := by
  unfold prs at h
  split at h
  · cases h
  · rename_i a' p d hh u z e
    split at h
    · rename_i l
      split at h
      · rename_i l2
        exact ⟨a', p, d, hh, u, z, e, Or.inr ⟨l, l2, by simp only [prs, e, l, l2, if_true]⟩⟩
      · cases h
    · rename_i l
      exact ⟨a', p, d, hh, u, z, e, Or.inl ⟨l, by simp only [prs, e, l, if_false]⟩⟩
end PRS
section RAL
variable {B : Mem} {r g : Nat → Int32} {cd : Nat → Nat} {b : Nat}
def rowE (r : Nat → Int32) (x : Nat × Nat × (Nat → Int32) × Bool) : Nat → Int32 := uS (uS (uS r 7 (nI x.1)) 8 (bI x.2.2.2)) 10 (nI x.2.1)
theorem r_readsLoop (hB : RB B) (hq : ∀ i, i < b → B.1 280 i = nI (cd i)) (hc : ∀ i, i < b → 33 ≤ cd i ∧ cd i ≤ 126) (hb : b ≤ 60) {P : Mem → Prop} {r0 : Nat → Int32} (h06 : r0 6 = nI b) : ∀ {f a t : Nat} {g r : Nat → Int32}, a ≤ b → b < a + f → 6 * t ≤ a → r = rowE r0 (a, t, g, true) → P (wR (wR B 281 (prs cd b f a t g).2.2.1) 276 (rowE r0 (prs cd b f a t g))) → ∀ {Q : Mem → Prop}, (∀ M, wpL_X7_readsAll_19 283 P f M 276 → Q M) → wp_X7_readsPart 283 (wR (wR B 281 g) 276 r) 276 Q := by
  intro f
  induction f with
  | zero => intro a t g r h1 h2 _; omega
  | succ f ih =>
    intro a t g r h1 h2 h3 hr hp Q hQ
    have e6 : r 6 = nI b := by rw [hr]; unfold rowE; rw [uS_o (by omega), uS_o (by omega), uS_o (by omega)]; exact h06
    have e7 : r 7 = nI a := by rw [hr]; unfold rowE; rw [uS_o (by omega), uS_o (by omega), uS_s]
    have e8 : r 8 = 1 := by rw [hr]; unfold rowE; rw [uS_o (by omega), uS_s]; rfl
    have e10 : r 10 = nI t := by rw [hr]; unfold rowE; rw [uS_s]
    obtain ⟨F1, F2⟩ := fol (s := fun _ => 0) hc h1 rfl
    refine r_readsPart hB hq hc hb e6 e7 h1 e8 e10 (by omega) (fun a' e => hQ _ ?_) (fun a' p d h u z e => hQ _ ?_)
    · unfold prs at hp
      rw [e] at hp
      have er : rowD r a' = rowE r0 (a', t, g, false) := by
        rw [hr]
        funext k
        unfold rowD rowE uS
        by_cases w10 : k = 10
        · subst w10; rfl
        · by_cases w8 : k = 8
          · subst w8; rfl
          · by_cases w7 : k = 7
            · subst w7; rfl
            · rw [if_neg w8, if_neg w7]
              show (if k = 10 then nI t else if k = 8 then bI true else if k = 7 then nI a else r0 k) = (if k = 10 then nI t else if k = 8 then bI false else if k = 7 then nI a' else r0 k)
              rw [if_neg w10, if_neg w8, if_neg w7, if_neg w10, if_neg w8, if_neg w7]
      rw [er]
      refine ⟨tp7, fun _ => hp, fun w => ?_⟩
      rw [wR_1] at w
      exact absurd w (by unfold rowE; rw [uS_o (by omega), uS_s]; exact (by decide : ¬ (bI false != 0) = true))
    · obtain ⟨s', k1, k2, k3, _⟩ := F2 a' p d h u z e
      unfold prs at hp
      rw [e] at hp
      have er : uS (rowR r a') 10 (nI (t + 1)) = rowE r0 (a', t + 1, told5 g t d h p u z, true) := by
        rw [hr]
        funext k
        unfold rowR rowE uS
        by_cases w10 : k = 10
        · subst w10; rfl
        · by_cases w8 : k = 8
          · subst w8; rfl
          · by_cases w7 : k = 7
            · subst w7; rfl
            · rw [if_neg w10, if_neg w7]
              show (if k = 10 then nI t else if k = 8 then bI true else if k = 7 then nI a else r0 k) = (if k = 10 then nI (t + 1) else if k = 8 then bI true else if k = 7 then nI a' else r0 k)
              rw [if_neg w10, if_neg w8, if_neg w7, if_neg w10, if_neg w8, if_neg w7]
      have q6 : uS (rowR r a') 10 (nI (t + 1)) 6 = nI b := by rw [er]; unfold rowE; rw [uS_o (by omega), uS_o (by omega), uS_o (by omega)]; exact h06
      have q7 : uS (rowR r a') 10 (nI (t + 1)) 7 = nI a' := by rw [er]; unfold rowE; rw [uS_o (by omega), uS_o (by omega), uS_s]
      have q8 : uS (rowR r a') 10 (nI (t + 1)) 8 = 1 := by rw [er]; unfold rowE; rw [uS_o (by omega), uS_s]; rfl
      have hq2 : ∀ i, i < b → (wR B 281 (told5 g t d h p u z)).1 280 i = nI (cd i) := fun i hi => by rw [wR_o (by omega)]; exact hq i hi
      refine ⟨tp7, fun w => ?_, fun _ => ⟨fun w => ?_, fun w => ?_⟩⟩
      · rw [wR_1, q8] at w; exact absurd w (by decide)
      · rw [wR_1, q6, q7] at w
        have := (nI_leI (by omega) (by omega)).mp w
        simp only [show ¬ a' < b by omega, if_false] at hp
        rw [er]; exact hp
      · rw [wR_1, q6, q7] at w
        have l : a' < b := by
          rcases Nat.lt_or_ge a' b with q | q
          · exact q
          · exact absurd ((nI_leI (by omega) (by omega)).mpr q) w
        simp only [l, if_true] at hp
        refine r_sgnTaken (C := wR B 281 (told5 g t d h p u z)) hB hq2 hc hb q6 q7 (by omega) q8 (n := 59) rfl (by omega) (by omega) (fun _ l2 => ?_) (fun l2 => ?_)
        · rw [if_pos l2] at hp
          intro M10 e10
          rw [wR_uI] at e10
          have er2 : uS (uS (uS (rowR r a') 10 (nI (t + 1))) 7 (nI (a' + 1))) 8 (bI true) = rowE r0 (a' + 1, t + 1, told5 g t d h p u z, true) := by
            rw [er]
            funext k
            unfold rowE uS
            by_cases w8 : k = 8
            · subst w8; rfl
            · by_cases w7 : k = 7
              · subst w7; rfl
              · rw [if_neg w8, if_neg w7]
                show (if k = 10 then nI (t + 1) else if k = 8 then bI true else if k = 7 then nI a' else r0 k) = (if k = 10 then nI (t + 1) else if k = 8 then bI true else if k = 7 then nI (a' + 1) else r0 k)
                rw [if_neg w8, if_neg w7, if_neg w8, if_neg w7]
          rw [er2] at e10
          rw [e10]
          refine ⟨fun w => ?_, fun _ => ih (by omega) (by omega) (by omega) rfl hp fun _ hM => hM⟩
          rw [wR_1] at w
          exact absurd w (by unfold rowE; rw [uS_o (by omega), uS_s]; exact (by decide : ¬ (bI true != 0) = false))
        · have l2 : ¬ cd a' = 59 := fun w => l2 ⟨l, w⟩
          rw [if_neg l2] at hp
          intro M10 e10
          rw [wR_uI] at e10
          have er2 : uS (uS (rowR r a') 10 (nI (t + 1))) 8 (bI false) = rowE r0 (a', t + 1, told5 g t d h p u z, false) := by
            rw [er]
            funext k
            unfold rowE uS
            by_cases w10 : k = 10
            · subst w10; rfl
            · by_cases w8 : k = 8
              · subst w8; rfl
              · rw [if_neg w8]
                show (if k = 10 then nI (t + 1) else if k = 8 then bI true else if k = 7 then nI a' else r0 k) = (if k = 10 then nI (t + 1) else if k = 8 then bI false else if k = 7 then nI a' else r0 k)
                rw [if_neg w8, if_neg w8]
          rw [er2] at e10
          rw [e10]
          have q8' : rowE r0 (a', t + 1, told5 g t d h p u z, false) 8 = 0 := by unfold rowE; rw [uS_o (by omega), uS_s]; rfl
          refine ⟨fun _ => ?_, fun w => ?_⟩
          · cases f with
            | zero => omega
            | succ f =>
              refine ⟨tp7, fun _ => hp, fun w => ?_⟩
              rw [wR_1, q8'] at w; exact absurd w (by decide)
          · rw [wR_1, q8'] at w; exact absurd w (by decide)
theorem r_readsAll (hB : RB B) (hq : ∀ i, i < b → B.1 280 i = nI (cd i)) (hc : ∀ i, i < b → 33 ≤ cd i ∧ cd i ≤ 126) (hb : b ≤ 60) (h6 : r 6 = nI b) {P : Mem → Prop} (hp : P (wR (wR B 281 (prs cd b (b + 1) 0 0 g).2.2.1) 276 (rowE r (prs cd b (b + 1) 0 0 g)))) : wp_X7_readsAll 283 (wR (wR B 281 g) 276 r) 276 P := by
  refine ⟨tp7, fun M2 e2 M3 e3 M4 e4 => ?_⟩
  rw [wR_uI] at e2
  rw [e2, wR_uI] at e3
  rw [e3, wR_uI] at e4
  rw [e4]
  exact r_readsLoop (P := P) hB hq hc hb h6 (f := b + 1) (a := 0) (t := 0) (g := g) (r := rowE r (0, 0, g, true)) (by omega) (by omega) (by omega) rfl hp fun M hM => ⟨_, hM⟩
end RAL
