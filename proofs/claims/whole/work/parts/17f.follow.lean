/-! The text: what the class reads follows what the reference reads, part by part. -/
def itr (q : Nat → Int32) : Nat → Nat → (Nat → Int32) → (Nat → Int32)
  | 0, _, s => s
  | n + 1, i, s => itr q n (i + 1) (nxt s (q i))
def okAll (q : Nat → Int32) : Nat → Nat → (Nat → Int32) → Prop
  | 0, _, _ => True
  | n + 1, i, s => okC s (q i) = true ∧ okAll q n (i + 1) (nxt s (q i))
def Steps (cd : Nat → Nat) (i : Nat) (s : Nat → Int32) (j : Nat) (s' : Nat → Int32) : Prop := ∃ n, j = i + n ∧ okAll (fun k => nI (cd k)) n i s ∧ itr (fun k => nI (cd k)) n i s = s' ∧ ∀ k, i ≤ k → k < j → cd k ≠ 59
theorem itr_add {q : Nat → Int32} {m : Nat} : ∀ {n i : Nat} {s : Nat → Int32}, itr q (n + m) i s = itr q m (i + n) (itr q n i s) := by
  intro n
  induction n with
  | zero => intro i s; rw [Nat.zero_add]; rfl
  | succ n ih =>
    intro i s
    rw [show n + 1 + m = (n + m) + 1 by omega, show i + (n + 1) = (i + 1) + n by omega]
    exact ih
theorem okAll_add {q : Nat → Int32} {m : Nat} : ∀ {n i : Nat} {s : Nat → Int32}, okAll q n i s → okAll q m (i + n) (itr q n i s) → okAll q (n + m) i s := by
  intro n
  induction n with
  | zero => intro i s _ h; rw [Nat.zero_add]; exact h
  | succ n ih =>
    intro i s h1 h2
    rw [show n + 1 + m = (n + m) + 1 by omega]
    rw [show i + (n + 1) = (i + 1) + n by omega] at h2
    exact ⟨h1.1, ih h1.2 h2⟩
section FOL
variable {cd : Nat → Nat} {b a : Nat} {s s' s'' : Nat → Int32}
theorem Steps.rf {i : Nat} : Steps cd i s i s := ⟨0, rfl, trivial, rfl, fun k h1 h2 => by omega⟩
theorem Steps.tr {i j k : Nat} (h : Steps cd i s j s') (h' : Steps cd j s' k s'') : Steps cd i s k s'' := by
  obtain ⟨n, rfl, a1, rfl, c1⟩ := h
  obtain ⟨m, rfl, a2, rfl, c2⟩ := h'
  exact ⟨n + m, by omega, okAll_add a1 a2, itr_add, fun x h1 h2 => if q : x < i + n then c1 x h1 q else c2 x (by omega) h2⟩
theorem Steps.one {i : Nat} (h : okC s (nI (cd i)) = true) (hn : cd i ≠ 59) : Steps cd i s (i + 1) (nxt s (nI (cd i))) := ⟨1, rfl, ⟨h, trivial⟩, rfl, fun k h1 h2 => by
  have : k = i := by omega
  subst this; exact hn⟩
theorem dgt_d {c : Nat} (h1 : 48 ≤ c) (h2 : c ≤ 57) : dgt (nI c) = nI (c - 48) := by
  unfold dgt
  rw [show (48 : Int32) = nI 48 from rfl, show (57 : Int32) = nI 57 from rfl, if_neg (fun z => by have := (nI_ltI (by omega) (by omega)).mp z; omega), if_neg (fun z => by have := (nI_ltI (by omega) (by omega)).mp z; omega), ← Int32.toInt_inj, nI_sub_toInt (by omega) (by omega), nI_toInt (by omega)]
  omega
theorem dgt_n {c : Nat} (h : ¬ (48 ≤ c ∧ c ≤ 57)) (h2 : c ≤ 126) : dgt (nI c) = -1 := by
  unfold dgt
  by_cases z : c < 48
  · rw [show (48 : Int32) = nI 48 from rfl, if_pos ((nI_ltI (by omega) (by omega)).mpr z)]
  · rw [show (48 : Int32) = nI 48 from rfl, show (57 : Int32) = nI 57 from rfl, if_neg (fun w => z ((nI_ltI (by omega) (by omega)).mp w)), if_pos ((nI_ltI (by omega) (by omega)).mpr (by omega))]
theorem nI_lit33 {c n : Nat} (hc : c ≤ 126) (hn : n ≤ 126) : nI c = nI n ↔ c = n := nI_eq (by omega) (by omega)
-- the states
theorem okC_0 {x : Int32} (h : s 3 = 0) : okC s x = !decide (dgt x ≤ 0) := by unfold okC; rw [if_pos h]
theorem nxt_0 {x : Int32} (h : s 3 = 0) : nxt s x = uS (uS (uS (uS s 4 (dgt x)) 7 9999) 8 0) 3 1 := by unfold nxt; rw [if_pos h]
theorem okC_1 {x : Int32} (h : s 3 = 1) : okC s x = (if x = 100 then true else if dgt x = -1 then false else !decide (40 < 10 * s 4 + dgt x)) := by unfold okC; rw [if_neg (by rw [h]; decide), if_pos h]
theorem nxt_1 {x : Int32} (h : s 3 = 1) : nxt s x = (if x = 100 then uS s 3 2 else uS s 4 (10 * s 4 + dgt x)) := by unfold nxt; rw [if_neg (by rw [h]; decide), if_pos h]
theorem okC_2 {x : Int32} (h : s 3 = 2) : okC s x = (if dgt x = -1 then false else !decide (5 ≤ dgt x)) := by unfold okC; rw [if_neg (by rw [h]; decide), if_neg (by rw [h]; decide), if_pos h]
theorem nxt_2 {x : Int32} (h : s 3 = 2) : nxt s x = uS (uS s 5 (dgt x)) 3 3 := by unfold nxt; rw [if_neg (by rw [h]; decide), if_neg (by rw [h]; decide), if_pos h]
theorem okC_3 {x : Int32} (h : s 3 = 3) : okC s x = decide (x = 104) := by unfold okC; rw [if_neg (by rw [h]; decide), if_neg (by rw [h]; decide), if_neg (by rw [h]; decide), if_pos h]
theorem nxt_3 {x : Int32} (h : s 3 = 3) : nxt s x = uS s 3 4 := by unfold nxt; rw [if_neg (by rw [h]; decide), if_neg (by rw [h]; decide), if_neg (by rw [h]; decide), if_pos h]
theorem okC_4 {x : Int32} (h : s 3 = 4) : okC s x = (if dgt x = -1 then false else !decide (4 ≤ dgt x)) := by unfold okC; rw [if_neg (by rw [h]; decide), if_neg (by rw [h]; decide), if_neg (by rw [h]; decide), if_neg (by rw [h]; decide), if_pos h]
theorem nxt_4 {x : Int32} (h : s 3 = 4) : nxt s x = uS (uS s 6 (dgt x)) 3 5 := by unfold nxt; rw [if_neg (by rw [h]; decide), if_neg (by rw [h]; decide), if_neg (by rw [h]; decide), if_neg (by rw [h]; decide), if_pos h]
theorem okC_5 {x : Int32} (h : s 3 = 5) : okC s x = (if x = 64 then true else endOk x) := by unfold okC; rw [if_neg (by rw [h]; decide), if_neg (by rw [h]; decide), if_neg (by rw [h]; decide), if_neg (by rw [h]; decide), if_neg (by rw [h]; decide), if_pos h]
theorem nxt_5 {x : Int32} (h : s 3 = 5) : nxt s x = (if x = 64 then uS s 3 6 else endC s x) := by unfold nxt; rw [if_neg (by rw [h]; decide), if_neg (by rw [h]; decide), if_neg (by rw [h]; decide), if_neg (by rw [h]; decide), if_neg (by rw [h]; decide), if_pos h]
theorem okC_6 {x : Int32} (h : s 3 = 6) : okC s x = !decide (dgt x = -1) := by unfold okC; rw [if_neg (by rw [h]; decide), if_neg (by rw [h]; decide), if_neg (by rw [h]; decide), if_neg (by rw [h]; decide), if_neg (by rw [h]; decide), if_neg (by rw [h]; decide), if_pos h]
theorem nxt_6 {x : Int32} (h : s 3 = 6) : nxt s x = uS (uS s 7 (dgt x)) 3 7 := by unfold nxt; rw [if_neg (by rw [h]; decide), if_neg (by rw [h]; decide), if_neg (by rw [h]; decide), if_neg (by rw [h]; decide), if_neg (by rw [h]; decide), if_neg (by rw [h]; decide), if_pos h]
theorem okC_7 {x : Int32} (h : s 3 = 7) : okC s x = (if dgt x = -1 then endOk x else if s 7 = 0 then false else !decide (9999 < 10 * s 7 + dgt x)) := by unfold okC; rw [if_neg (by rw [h]; decide), if_neg (by rw [h]; decide), if_neg (by rw [h]; decide), if_neg (by rw [h]; decide), if_neg (by rw [h]; decide), if_neg (by rw [h]; decide), if_neg (by rw [h]; decide), if_pos h]
theorem nxt_7 {x : Int32} (h : s 3 = 7) : nxt s x = (if dgt x = -1 then endC s x else uS s 7 (10 * s 7 + dgt x)) := by unfold nxt; rw [if_neg (by rw [h]; decide), if_neg (by rw [h]; decide), if_neg (by rw [h]; decide), if_neg (by rw [h]; decide), if_neg (by rw [h]; decide), if_neg (by rw [h]; decide), if_neg (by rw [h]; decide), if_pos h]
theorem okC_8 {x : Int32} (h : s 3 = 8) : okC s x = decide (x = 59) := by unfold okC; rw [if_neg (by rw [h]; decide), if_neg (by rw [h]; decide), if_neg (by rw [h]; decide), if_neg (by rw [h]; decide), if_neg (by rw [h]; decide), if_neg (by rw [h]; decide), if_neg (by rw [h]; decide), if_neg (by rw [h]; decide)]
theorem nxt_8 {x : Int32} (h : s 3 = 8) : nxt s x = uS s 3 0 := by unfold nxt; rw [if_neg (by rw [h]; decide), if_neg (by rw [h]; decide), if_neg (by rw [h]; decide), if_neg (by rw [h]; decide), if_neg (by rw [h]; decide), if_neg (by rw [h]; decide), if_neg (by rw [h]; decide), if_neg (by rw [h]; decide)]; rfl
theorem nI_dec {v c : Nat} : 10 * nI v + nI (c - 48) = nI (10 * v + (c - 48)) := by rw [show (10 : Int32) = nI 10 from rfl, nI_mul, nI_add]
/-- the digits of the pieces -/
theorem fol_pieces (hc : ∀ i, i < b → 33 ≤ cd i ∧ cd i ≤ 126) : ∀ (f v a : Nat) (s : Nat → Int32), a + f = b → s 3 = 1 → s 4 = nI v → 0 < v → v ≤ 40 → ∃ s', Steps cd a s (numL cd 40 f v a).2 s' ∧ s' 3 = 1 ∧ s' 4 = nI (numL cd 40 f v a).1 ∧ (∀ k, 4 < k → s' k = s k) ∧ 0 < (numL cd 40 f v a).1 ∧ (numL cd 40 f v a).1 ≤ 40 ∧ ((numL cd 40 f v a).2 < b → ¬ (48 ≤ cd (numL cd 40 f v a).2 ∧ cd (numL cd 40 f v a).2 ≤ 57 ∧ 10 * (numL cd 40 f v a).1 + (cd (numL cd 40 f v a).2 - 48) ≤ 40)) := by
  intro f
  induction f with
  | zero =>
    intro v a s hf h3 h4 hv hv2
    exact ⟨s, Steps.rf, h3, h4, fun _ _ => rfl, hv, hv2, fun z => by have z : a < b := z; omega⟩
  | succ f ih =>
    intro v a s hf h3 h4 hv hv2
    have hca := hc a (by omega)
    unfold numL
    by_cases z : 0 < v ∧ 48 ≤ cd a ∧ cd a ≤ 57 ∧ 10 * v + (cd a - 48) ≤ 40
    · rw [if_pos z]
      have n100 : ¬ nI (cd a) = 100 := fun w => by have := (nI_lit33 (n := 100) hca.2 (by omega)).mp w; omega
      have hd := dgt_d z.2.1 z.2.2.1
      have ok : okC s (nI (cd a)) = true := by
        rw [okC_1 h3, if_neg n100, hd, if_neg (nI_n1 (by omega)), h4, nI_dec, show (40 : Int32) = nI 40 from rfl]
        have : ¬ nI 40 < nI (10 * v + (cd a - 48)) := fun w => by have := (nI_ltI (by omega) (by omega)).mp w; omega
        simp [this]
      have en : nxt s (nI (cd a)) = uS s 4 (nI (10 * v + (cd a - 48))) := by rw [nxt_1 h3, if_neg n100, hd, h4, nI_dec]
      obtain ⟨s', h5, h6, h7, h8, h9, h10, h11⟩ := ih (10 * v + (cd a - 48)) (a + 1) (nxt s (nI (cd a))) (by omega) (by rw [en, uS_o (by omega)]; exact h3) (by rw [en, uS_s]) (by omega) z.2.2.2
      exact ⟨s', (Steps.one ok (by omega)).tr h5, h6, h7, fun k hk => by rw [h8 k hk, en, uS_o (by omega)], h9, h10, h11⟩
    · rw [if_neg z]
      exact ⟨s, Steps.rf, h3, h4, fun _ _ => rfl, hv, hv2, fun _ w => z ⟨hv, w⟩⟩
/-- the digits of the due minute -/
theorem fol_due (hc : ∀ i, i < b → 33 ≤ cd i ∧ cd i ≤ 126) : ∀ (f v a : Nat) (s : Nat → Int32), a + f = b → s 3 = 7 → s 7 = nI v → v ≤ 9999 → ∃ s', Steps cd a s (numL cd 9999 f v a).2 s' ∧ s' 3 = 7 ∧ s' 7 = nI (numL cd 9999 f v a).1 ∧ (∀ k, k ≠ 7 → s' k = s k) ∧ (numL cd 9999 f v a).1 ≤ 9999 ∧ ((numL cd 9999 f v a).2 < b → ¬ (0 < (numL cd 9999 f v a).1 ∧ 48 ≤ cd (numL cd 9999 f v a).2 ∧ cd (numL cd 9999 f v a).2 ≤ 57 ∧ 10 * (numL cd 9999 f v a).1 + (cd (numL cd 9999 f v a).2 - 48) ≤ 9999)) := by
  intro f
  induction f with
  | zero =>
    intro v a s hf h3 h4 hv2
    exact ⟨s, Steps.rf, h3, h4, fun _ _ => rfl, hv2, fun z => by have z : a < b := z; omega⟩
  | succ f ih =>
    intro v a s hf h3 h4 hv2
    have hca := hc a (by omega)
    unfold numL
    by_cases z : 0 < v ∧ 48 ≤ cd a ∧ cd a ≤ 57 ∧ 10 * v + (cd a - 48) ≤ 9999
    · rw [if_pos z]
      have hd := dgt_d z.2.1 z.2.2.1
      have nd : ¬ dgt (nI (cd a)) = -1 := by rw [hd]; exact nI_n1 (by omega)
      have n0 : ¬ s 7 = 0 := by rw [h4]; exact fun w => by have := (nI_eq (b := 0) (by omega) (by omega)).mp w; omega
      have ok : okC s (nI (cd a)) = true := by
        rw [okC_7 h3, if_neg nd, if_neg n0, hd, h4, nI_dec, show (9999 : Int32) = nI 9999 from rfl]
        have : ¬ nI 9999 < nI (10 * v + (cd a - 48)) := fun w => by have := (nI_ltI (by omega) (by omega)).mp w; omega
        simp [this]
      have en : nxt s (nI (cd a)) = uS s 7 (nI (10 * v + (cd a - 48))) := by rw [nxt_7 h3, if_neg nd, hd, h4, nI_dec]
      obtain ⟨s', h5, h6, h7, h8, h9, h11⟩ := ih (10 * v + (cd a - 48)) (a + 1) (nxt s (nI (cd a))) (by omega) (by rw [en, uS_o (by omega)]; exact h3) (by rw [en, uS_s]) z.2.2.2
      exact ⟨s', (Steps.one ok (by omega)).tr h5, h6, h7, fun k hk => by rw [h8 k hk, en, uS_o (by omega)], h9, h11⟩
    · rw [if_neg z]
      exact ⟨s, Steps.rf, h3, h4, fun _ _ => rfl, hv2, fun _ w => z w⟩
end FOL
