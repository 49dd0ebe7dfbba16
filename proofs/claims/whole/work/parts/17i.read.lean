/-! The text: a part that the class reads again. -/
theorem nxt_uS2 {t : Nat → Int32} {v x : Int32} : nxt (uS t 2 v) x = uS (nxt t x) 2 v := by
  have e3 : uS t 2 v 3 = t 3 := uS_o (by omega)
  have e4 : uS t 2 v 4 = t 4 := uS_o (by omega)
  have e7 : uS t 2 v 7 = t 7 := uS_o (by omega)
  unfold nxt endC sepC
  rw [e3, e4, e7]
  repeat' split
  all_goals
    funext k
    by_cases w : k = 2
    · subst w; rfl
    · simp only [uS, w, if_false]
theorem uS_uS {t : Nat → Int32} {i : Nat} {v w : Int32} : uS (uS t i v) i w = uS t i w := by
  funext k
  unfold uS
  split <;> rfl
theorem rdP_o {q : Nat → Int32} {k : Nat} (hk : k < 2) : ∀ {f i : Nat} {s : Nat → Int32}, rdP q f i s k = s k := by
  intro f
  induction f with
  | zero => intro i s; rfl
  | succ f ih =>
    intro i s
    unfold rdP
    split
    · rw [uS_o (by omega), nxt_o (by omega)]
    · rw [ih, uS_o (by omega), nxt_o (by omega)]
theorem rdP_add {q : Nat → Int32} {m : Nat} : ∀ {n i : Nat} {t : Nat → Int32}, (∀ k, i ≤ k → k < i + n → q k ≠ 59) → rdP q (n + m) i (uS t 2 (nI i)) = rdP q m (i + n) (uS (itr q n i t) 2 (nI (i + n))) := by
  intro n
  induction n with
  | zero => intro i t _; rw [Nat.zero_add]; rfl
  | succ n ih =>
    intro i t h
    rw [show n + 1 + m = (n + m) + 1 by omega, show i + (n + 1) = (i + 1) + n by omega]
    show (if q i = 59 then _ else rdP q (n + m) (i + 1) (uS (nxt (uS t 2 (nI i)) (q i)) 2 (nI (i + 1)))) = _
    rw [if_neg (h i (by omega) (by omega)), nxt_uS2, uS_uS]
    exact ih fun k h1 h2 => h k (by omega) (by omega)
theorem rd_part {cd : Nat → Nat} {b a a' p d h u z : Nat} {s : Nat → Int32} (hc : ∀ i, i < b → 33 ≤ cd i ∧ cd i ≤ 126) (ha : a ≤ b) (h3 : s 3 = 0) (h2 : s 2 = nI a) (e : prt cd b a = (a', some (p, d, h, u, z))) (he : a' < b → cd a' = 59) :
    let s' := rdP (fun k => nI (cd k)) (b - a) a s
    s' 1 = s 1 ∧ s' 4 = nI p ∧ s' 5 = nI d ∧ s' 6 = nI h ∧ s' 7 = nI u ∧ s' 8 = nI z ∧ (1 ≤ p ∧ p ≤ 40 ∧ d ≤ 4 ∧ h ≤ 3 ∧ u ≤ 9999 ∧ z ≤ 1) ∧ (a' < b → s' 2 = nI (a' + 1) ∧ s' 3 = 0) ∧ a ≤ a' ∧ a' ≤ b := by
  intro s'
  obtain ⟨s1, ⟨n, l1, l2, l3, l4⟩, k2, k3, k4, k5, k6, k7, k8, k9, k10, k11, k12⟩ := (fol (s := s) hc ha h3).2 a' p d h u z e
  subst l1
  have es : rdP (fun k => nI (cd k)) (b - a) a s = rdP (fun k => nI (cd k)) (b - (a + n)) (a + n) (uS s1 2 (nI (a + n))) := by
    have := rdP_add (q := fun k => nI (cd k)) (m := b - (a + n)) (n := n) (i := a) (t := s) (fun k w1 w2 w => l4 k w1 w2 ((nI_lit33 (n := 59) (hc k (by omega)).2 (by omega)).mp w))
    rw [uS_same h2, l3, show n + (b - (a + n)) = b - a by omega] at this
    exact this
  refine ⟨rdP_o (by omega), ?_⟩
  show rdP (fun k => nI (cd k)) (b - a) a s 4 = nI p ∧ rdP (fun k => nI (cd k)) (b - a) a s 5 = nI d ∧ rdP (fun k => nI (cd k)) (b - a) a s 6 = nI h ∧ rdP (fun k => nI (cd k)) (b - a) a s 7 = nI u ∧ rdP (fun k => nI (cd k)) (b - a) a s 8 = nI z ∧ (1 ≤ p ∧ p ≤ 40 ∧ d ≤ 4 ∧ h ≤ 3 ∧ u ≤ 9999 ∧ z ≤ 1) ∧ (a + n < b → rdP (fun k => nI (cd k)) (b - a) a s 2 = nI (a + n + 1) ∧ rdP (fun k => nI (cd k)) (b - a) a s 3 = 0) ∧ a ≤ a + n ∧ a + n ≤ b
  rw [es]
  cases em : b - (a + n) with
  | zero =>
    refine ⟨?_, ?_, ?_, ?_, ?_, k10, fun w => by omega, by omega, by omega⟩
    · exact (uS_o (by omega)).trans k5
    · exact (uS_o (by omega)).trans k6
    · exact (uS_o (by omega)).trans k7
    · exact (uS_o (by omega)).trans k8
    · exact (uS_o (by omega)).trans k9
  | succ m =>
    have l : a + n < b := by omega
    have l59 := he l
    have e1 : rdP (fun k => nI (cd k)) (m + 1) (a + n) (uS s1 2 (nI (a + n))) = uS (uS s1 3 0) 2 (nI (a + n + 1)) := by
      show (if nI (cd (a + n)) = 59 then uS (nxt (uS s1 2 (nI (a + n))) (nI (cd (a + n)))) 2 (nI (a + n + 1)) else _) = _
      rw [if_pos (by rw [l59]; rfl), nxt_uS2, uS_uS, k12 l l59]
    rw [e1]
    refine ⟨?_, ?_, ?_, ?_, ?_, k10, fun _ => ⟨uS_s, ?_⟩, by omega, by omega⟩
    · rw [uS_o (by omega), uS_o (by omega)]; exact k5
    · rw [uS_o (by omega), uS_o (by omega)]; exact k6
    · rw [uS_o (by omega), uS_o (by omega)]; exact k7
    · rw [uS_o (by omega), uS_o (by omega)]; exact k8
    · rw [uS_o (by omega), uS_o (by omega)]; exact k9
    · rw [uS_o (by omega), uS_s]
