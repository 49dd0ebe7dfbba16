/-! The text: the reference's signs and numbers. -/
def sgn (cd : Nat → Nat) (b a : Nat) : Nat := if a < b then cd a else 0
def numL (cd : Nat → Nat) (hi : Nat) : Nat → Nat → Nat → Nat × Nat
  | 0, v, a => (v, a)
  | f + 1, v, a => if 0 < v ∧ 48 ≤ cd a ∧ cd a ≤ 57 ∧ 10 * v + (cd a - 48) ≤ hi then numL cd hi f (10 * v + (cd a - 48)) (a + 1) else (v, a)
theorem uS_same {r : Nat → Int32} {k : Nat} {v : Int32} (h : r k = v) : uS r k v = r := by
  funext x
  unfold uS
  split
  · rename_i e; rw [e, h]
  · rfl
theorem in_nI {x lo hi : Nat} (hx : x < 2 ^ 31) (hl : lo < 2 ^ 31) (hh : hi < 2 ^ 31) : (if nI x < nI lo then false else (if nI hi < nI x then false else true)) = decide (lo ≤ x ∧ x ≤ hi) := by
  by_cases h1 : x < lo
  · rw [if_pos ((nI_ltI hx hl).mpr h1), decide_eq_false (by omega)]
  · rw [if_neg (fun z => h1 ((nI_ltI hx hl).mp z))]
    by_cases h2 : hi < x
    · rw [if_pos ((nI_ltI hh hx).mpr h2), decide_eq_false (by omega)]
    · rw [if_neg (fun z => h2 ((nI_ltI hh hx).mp z)), decide_eq_true (by omega)]
section RTX
variable {C : Mem} {r : Nat → Int32} {cd : Nat → Nat} {b a : Nat}
theorem sgn_le (hc : ∀ i, i < b → 33 ≤ cd i ∧ cd i ≤ 126) : sgn cd b a ≤ 126 := by
  unfold sgn
  split
  · exact (hc a (by assumption)).2
  · omega
theorem r_sign (hB : RB C) (hq : ∀ i, i < b → C.1 280 i = nI (cd i)) (hb : b ≤ 60) (h6 : r 6 = nI b) (h7 : r 7 = nI a) (ha : a < 2 ^ 30) {P : Int32 → Mem → Prop} (hp : P (nI (sgn cd b a)) (wR C 276 r)) : wp_X7_sign 283 (wR C 276 r) 276 P := by
  refine ⟨tp7, fun e => ?_, fun e => ?_⟩
  · rw [wR_1, h6, h7] at e
    have := (nI_leI (by omega) (by omega)).mp e
    unfold sgn at hp
    rw [if_neg (by omega)] at hp
    exact hp
  · rw [wR_1, h6, h7] at e
    have hab : a < b := by
      rcases Nat.lt_or_ge a b with q | q
      · exact q
      · exact absurd ((nI_leI (by omega) (by omega)).mpr q) e
    refine ⟨280, hB.2.2.2.1, tp8d, ?_, ?_⟩
    · rw [wR_1, h7, len8d]; exact vpI rfl (by omega : a < 60) (by omega)
    · rw [wR_1, h7, nI_clamp (by omega), wR_o (by omega), hq a hab]
      unfold sgn at hp
      rw [if_pos hab] at hp
      exact hp
theorem r_takes_dead (h8 : r 8 = 0) {x : Int32} {P : Bool → Mem → Prop} (hp : P false (wR C 276 r)) : wp_X7_takesSign 283 (wR C 276 r) 276 x P := by
  refine ⟨tp7, fun _ M2 e2 => ?_, fun e => ?_⟩
  · rw [wR_1, wR_uI] at e2
    have e3 : M2 = wR C 276 r := by
      rw [e2]
      congr 1
      exact uS_same (by show r 7 = r 7 + 0; rw [Int32.add_zero])
    rw [e3]; exact hp
  · rw [wR_1, h8] at e; exact absurd e (by decide)
theorem r_sgnTaken (hB : RB C) (hq : ∀ i, i < b → C.1 280 i = nI (cd i)) (hc : ∀ i, i < b → 33 ≤ cd i ∧ cd i ≤ 126) (hb : b ≤ 60) (h6 : r 6 = nI b) (h7 : r 7 = nI a) (ha : a < 2 ^ 30) (h8 : r 8 = 1) {x : Int32} {n : Nat} (hx : x = nI n) (hn : 0 < n) (hn2 : n < 2 ^ 30) {P : Bool → Mem → Prop} (h1 : a < b → cd a = n → P true (wR C 276 (uS r 7 (nI (a + 1))))) (h0 : ¬ (a < b ∧ cd a = n) → P false (wR C 276 r)) : wp_X7_takesSign 283 (wR C 276 r) 276 x P := by
  subst hx
  refine ⟨tp7, fun e => ?_, fun _ => r_sign hB hq hb h6 h7 ha fun M5 e5 => ?_⟩
  · rw [wR_1, h8] at e; exact absurd e (by decide)
  · have hs := sgn_le (a := a) hc
    rw [wR_1, wR_uI, h7] at e5
    by_cases z : a < b ∧ cd a = n
    · have e : sgn cd b a = n := by unfold sgn; rw [if_pos z.1]; exact z.2
      rw [e] at e5 ⊢
      have e6 : (if ¬ nI n = nI n then false else true) = true := by rw [if_neg (fun y => y rfl)]
      rw [e6] at e5 ⊢
      have := h1 z.1 z.2
      rw [e5, show nI a + bI (if true = false then false else true) = nI (a + 1) from nI_1 a]
      exact this
    · have e : ¬ nI (sgn cd b a) = nI n := fun y => by
        have y := (nI_eq (by omega) (by omega)).mp y
        unfold sgn at y
        split at y
        · exact z ⟨by assumption, y⟩
        · omega
      rw [if_pos e] at e5 ⊢
      have e3 : M5 = wR C 276 r := by
        rw [e5]
        congr 1
        exact uS_same (by rw [h7]; show nI a = nI a + 0; rw [Int32.add_zero])
      rw [e3]; exact h0 z
theorem r_number_dead (hB : RB C) (hq : ∀ i, i < b → C.1 280 i = nI (cd i)) (hb : b ≤ 60) (h6 : r 6 = nI b) (h7 : r 7 = nI a) (ha : a < 2 ^ 30) (h8 : r 8 = 0) {x y : Int32} {P : Int32 → Mem → Prop} (hp : ∀ v, P v (wR C 276 r)) : wp_X7_number 283 (wR C 276 r) 276 x y P := by
  refine ⟨tp7, fun _ M2 e2 => ?_, fun e => ?_⟩
  · rw [wR_uI, uS_same (show r 8 = bI false from h8)] at e2
    rw [e2]
    refine r_sign hB hq hb h6 h7 ha fun v5 h5 M6 e6 => ?_
    have e3 : M6 = wR C 276 r := by
      rw [e6, wR_1, wR_uI, h8]
      congr 1
      exact uS_same (by show r 7 = r 7 + 0; rw [Int32.add_zero])
    rw [e3]
    refine ⟨1, tp7, fun _ => hp v5, fun e => ?_⟩
    rw [wR_1, h8] at e; exact absurd e (by decide)
  · rw [wR_1, h8] at e; exact absurd e (by decide)
theorem r_numL (hB : RB C) (hq : ∀ i, i < b → C.1 280 i = nI (cd i)) (hc : ∀ i, i < b → 33 ≤ cd i ∧ cd i ≤ 126) (hb : b ≤ 60) {hi : Nat} (hh : hi ≤ 9999) {P : Int32 → Mem → Prop} : ∀ (f a v : Nat) (r : Nat → Int32), a + f = b → r 6 = nI b → r 7 = nI a → r 8 = 1 → v ≤ 9999 → P (nI (numL cd hi f v a).1) (wR C 276 (uS r 7 (nI (numL cd hi f v a).2))) → wpL_X7_number_74 283 P (f + 1) (wR C 276 r) 276 (nI hi) (nI v) := by
  intro f
  induction f with
  | zero =>
    intro a v r hf h6 h7 h8 hv hp
    have : a = b := by omega
    subst this
    have hp : P (nI v) (wR C 276 r) := by
      have : P (nI v) (wR C 276 (uS r 7 (nI a))) := hp
      rwa [uS_same h7] at this
    refine ⟨tp7, fun _ => hp, fun _ => ⟨fun _ => hp, fun _ => r_sign hB hq hb h6 h7 (by omega) ?_⟩⟩
    refine ⟨fun _ => hp, fun e => ?_⟩
    rw [show (48 : Int32) = nI 48 from rfl, show (57 : Int32) = nI 57 from rfl, in_nI (by have := sgn_le (a := a) hc; omega) (by omega) (by omega)] at e
    unfold sgn at e
    rw [if_neg (by omega)] at e
    simp at e
  | succ f ih =>
    intro a v r hf h6 h7 h8 hv hp
    have hab : a < b := by omega
    have es : sgn cd b a = cd a := by unfold sgn; rw [if_pos hab]
    have hca := hc a hab
    unfold numL at hp
    have stop : ¬ (0 < v ∧ 48 ≤ cd a ∧ cd a ≤ 57 ∧ 10 * v + (cd a - 48) ≤ hi) → P (nI v) (wR C 276 r) := fun z => by
      rw [if_neg z] at hp
      have : P (nI v) (wR C 276 (uS r 7 (nI a))) := hp
      rwa [uS_same h7] at this
    have e48 : (48 : Int32) = nI 48 := rfl
    have e57 : (57 : Int32) = nI 57 := rfl
    refine ⟨tp7, fun e => ?_, fun _ => ⟨fun e => ?_, fun e => r_sign hB hq hb h6 h7 (by omega) ?_⟩⟩
    · rw [wR_1, h8] at e; exact absurd e (by decide)
    · refine stop fun z => ?_
      rw [show (0 : Int32) = nI 0 from rfl] at e
      have := (nI_leI (by omega) (by omega)).mp e
      omega
    · rw [es]
      refine ⟨fun e1 => ?_, fun e1 => r_sign hB hq hb h6 h7 (by omega) ?_⟩
      · rw [e48, e57, in_nI (by omega) (by omega) (by omega)] at e1
        simp only [decide_eq_false_iff_not] at e1
        exact stop fun z => e1 ⟨z.2.1, z.2.2.1⟩
      · rw [e48, e57, in_nI (by omega) (by omega) (by omega)] at e1
        simp only [decide_eq_true_eq] at e1
        rw [es]
        have ev : (10 * nI v + nI (cd a)) - 48 = nI (10 * v + (cd a - 48)) := by
          rw [show (10 : Int32) = nI 10 from rfl, nI_mul, nI_add, e48, ← Int32.toInt_inj, nI_sub_toInt (by omega) (by omega), nI_toInt (by omega)]
          omega
        rw [ev]
        refine ⟨fun e2 => ?_, fun e2 => r_sign hB hq hb h6 h7 (by omega) fun v16 h16 M17 e17 => ?_⟩
        · have := (nI_ltI (by omega) (by omega)).mp e2
          exact stop fun z => by omega
        · have hle : 10 * v + (cd a - 48) ≤ hi := by
            rcases Nat.lt_or_ge hi (10 * v + (cd a - 48)) with q | q
            · exact absurd ((nI_ltI (by omega) (by omega)).mpr q) e2
            · exact q
          have hv0 : 0 < v := by
            rcases Nat.eq_zero_or_pos v with q | q
            · subst q; exact absurd (Int32.le_refl _) e
            · exact q
          rw [if_pos ⟨hv0, e1.1, e1.2, hle⟩] at hp
          rw [wR_1, h7, nI_1, wR_uI] at e17
          rw [h16, e17, es, ev]
          refine ih (a + 1) _ _ (by omega) (by rw [uS_o (by omega)]; exact h6) uS_s (by rw [uS_o (by omega)]; exact h8) (by omega) ?_
          have eu : ∀ w, uS (uS r 7 (nI (a + 1))) 7 w = uS r 7 w := fun w => by
            funext k
            unfold uS
            split <;> rfl
          rw [eu]; exact hp
end RTX
